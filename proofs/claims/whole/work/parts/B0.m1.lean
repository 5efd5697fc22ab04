-- X6.in
abbrev tbX6_in : List (Nat × Instr × Nat) := [(0, .lload_n 0, 1), (1, .lload_n 2, 1), (2, .lcmp, 1), (3, .ifCond .lt 14, 3), (6, .lload_n 0, 1), (7, .lload 4, 2), (9, .lcmp, 1), (10, .ifCond .gt 7, 3), (13, .iconst 1, 1), (14, .goto 4, 3), (17, .iconst 0, 1), (18, .ireturn, 1)]
theorem dkX6_in : dk cX6_in tbX6_in := dk_of (by decide +kernel)
abbrev cdX6_in : Cond := Cond.code yX6_in cX6_in 6 (some .boolean)
abbrev rmX6_in : Room := { frames := 0, cells := 0, slots := 0, locals := 0 }
theorem mwX6_in : Cond.static yX6_in ∈ wsL_law ∧ Cond.initialized yX6_in.cls ∈ wsL_law ∧ cdX6_in ∈ wsL_law := ⟨inr5 _ (List.mem_of_getElem? (i := 22) rfl), inr1 _ (List.mem_of_getElem? (i := 5) rfl), inr5 _ (List.mem_of_getElem? (i := 23) rfl)⟩
theorem hdX6_in : yX6_in.cls ≠ "java/lang/invoke/MethodHandle" ∧ yX6_in.cls ≠ "java/lang/invoke/VarHandle" ∧ (parseMethodDescriptor yX6_in.desc).map (fun d => d.parameters.length) = some 3 := by decide +kernel
set_option maxHeartbeats 4000000 in
set_option maxRecDepth 100000 in
theorem kX6_in (l : Launch) (p1 : Int64) (p2 : Int64) (p3 : Int64) (res : Int32) (hf : fX6_in p1 p2 p3 = some res) : Met l yX6_in (cdX6_in :: wsL_law) rmX6_in (va_Pc [.long p1, .long p2, .long p3] (fun _ => True)) (vp_Si (fun x => x = res)) 0 0 (fun _ => False) := by
  refine Met_stz (cc := cX6_in) (maxL := 6) (by decide) rfl (Nat.le_of_ble_eq_true rfl) ?_
  intro P E Z Mi AR BE ME CO Q C fin ls hl
  have hl : lv_has ls 6 [(0, .long p1), (2, .long p2), (4, .long p3)] := hl
  unfold fX6_in at hf
  refine lv_lload_n C.1 C.2.1 (dk_at dkX6_in 0 rfl) rfl (lv_at hl 0 rfl) ?_
  refine lv_lload_n C.1 C.2.1 (dk_at dkX6_in 1 rfl) rfl (lv_at hl 1 rfl) ?_
  refine W.lcmp C.1 C.2.1 (dk_at dkX6_in 2 rfl) ?_
  refine lv_if_lt (tgt := 17) C.1 C.2.1 (dk_at dkX6_in 3 rfl) (by decide) (fun c1 => ?_) (fun c1 => ?_)
  · have hf := (if_pos c1).symm.trans hf
    refine lv_iconst (v := 0) C.1 C.2.1 (dk_at dkX6_in 10 rfl) (by decide) ?_
    cases hf
    exact fin _ _ _ (dk_at dkX6_in 11 rfl) rfl rfl
  · have hf := (if_neg c1).symm.trans hf
    refine lv_lload_n C.1 C.2.1 (dk_at dkX6_in 4 rfl) rfl (lv_at hl 0 rfl) ?_
    refine lv_lload C.1 C.2.1 (dk_at dkX6_in 5 rfl) (lv_at hl 2 rfl) ?_
    refine W.lcmp C.1 C.2.1 (dk_at dkX6_in 6 rfl) ?_
    refine lv_if_gt (tgt := 17) C.1 C.2.1 (dk_at dkX6_in 7 rfl) (by decide) (fun c2 => ?_) (fun c2 => ?_)
    · have hf := (if_pos c2).symm.trans hf
      refine lv_iconst (v := 0) C.1 C.2.1 (dk_at dkX6_in 10 rfl) (by decide) ?_
      cases hf
      exact fin _ _ _ (dk_at dkX6_in 11 rfl) rfl rfl
    · have hf := (if_neg c2).symm.trans hf
      refine lv_iconst (v := 1) C.1 C.2.1 (dk_at dkX6_in 8 rfl) (by decide) ?_
      refine lv_goto (tgt := 18) C.1 C.2.1 (dk_at dkX6_in 9 rfl) (by decide) ?_
      cases hf
      exact fin _ _ _ (dk_at dkX6_in 11 rfl) rfl rfl
-- X6.flag
abbrev tbX6_flag : List (Nat × Instr × Nat) := [(0, .iload_n 0, 1), (1, .ifCond .eq 7, 3), (4, .iconst 1, 1), (5, .goto 4, 3), (8, .iconst 0, 1), (9, .ireturn, 1)]
theorem dkX6_flag : dk cX6_flag tbX6_flag := dk_of (by decide +kernel)
abbrev cdX6_flag : Cond := Cond.code yX6_flag cX6_flag 1 (some .int)
abbrev rmX6_flag : Room := { frames := 0, cells := 0, slots := 0, locals := 0 }
theorem mwX6_flag : Cond.static yX6_flag ∈ wsL_law ∧ Cond.initialized yX6_flag.cls ∈ wsL_law ∧ cdX6_flag ∈ wsL_law := ⟨inr17 _ (List.mem_of_getElem? (i := 8) rfl), inr1 _ (List.mem_of_getElem? (i := 5) rfl), inr17 _ (List.mem_of_getElem? (i := 9) rfl)⟩
theorem hdX6_flag : yX6_flag.cls ≠ "java/lang/invoke/MethodHandle" ∧ yX6_flag.cls ≠ "java/lang/invoke/VarHandle" ∧ (parseMethodDescriptor yX6_flag.desc).map (fun d => d.parameters.length) = some 1 := by decide +kernel
set_option maxHeartbeats 4000000 in
set_option maxRecDepth 100000 in
theorem kX6_flag (l : Launch) (p1 : Int32) (res : Int32) (hf : fX6_flag p1 = some res) : Met l yX6_flag (cdX6_flag :: wsL_law) rmX6_flag (va_Pc [.int p1] (fun _ => True)) (vp_Si (fun x => x = res)) 0 0 (fun _ => False) := by
  refine Met_sti (cc := cX6_flag) (maxL := 1) (by decide) rfl (Nat.le_of_ble_eq_true rfl) ?_
  intro P E Z Mi AR BE ME CO Q C fin ls hl
  have hl : lv_has ls 1 [(0, .int p1)] := hl
  unfold fX6_flag at hf
  refine lv_iload_n C.1 C.2.1 (dk_at dkX6_flag 0 rfl) rfl (lv_at hl 0 rfl) ?_
  refine lv_if_eq (tgt := 8) C.1 C.2.1 (dk_at dkX6_flag 1 rfl) (by decide) (fun c1 => ?_) (fun c1 => ?_)
  · have hf := (if_pos c1).symm.trans hf
    refine lv_iconst (v := 0) C.1 C.2.1 (dk_at dkX6_flag 4 rfl) (by decide) ?_
    cases hf
    exact fin _ _ _ (dk_at dkX6_flag 5 rfl) rfl
  · have hf := (if_neg c1).symm.trans hf
    refine lv_iconst (v := 1) C.1 C.2.1 (dk_at dkX6_flag 2 rfl) (by decide) ?_
    refine lv_goto (tgt := 9) C.1 C.2.1 (dk_at dkX6_flag 3 rfl) (by decide) ?_
    cases hf
    exact fin _ _ _ (dk_at dkX6_flag 5 rfl) rfl
-- X6.isCell
abbrev tbX6_isCell : List (Nat × Instr × Nat) := [(0, .iload_n 0, 1), (1, .ifCond .lt 25, 3), (4, .iload_n 0, 1), (5, .bipush 10, 2), (7, .idiv, 1), (8, .bipush 8, 2), (10, .if_icmp .ge 16, 3), (13, .iload_n 0, 1), (14, .bipush 10, 2), (16, .irem, 1), (17, .bipush 8, 2), (19, .if_icmp .ge 7, 3), (22, .iconst 1, 1), (23, .goto 4, 3), (26, .iconst 0, 1), (27, .ireturn, 1)]
theorem dkX6_isCell : dk cX6_isCell tbX6_isCell := dk_of (by decide +kernel)
abbrev cdX6_isCell : Cond := Cond.code yX6_isCell cX6_isCell 1 (some .boolean)
abbrev rmX6_isCell : Room := { frames := 0, cells := 0, slots := 0, locals := 0 }
theorem mwX6_isCell : Cond.static yX6_isCell ∈ wsL_law ∧ Cond.initialized yX6_isCell.cls ∈ wsL_law ∧ cdX6_isCell ∈ wsL_law := ⟨inr15 _ (List.mem_of_getElem? (i := 9) rfl), inr1 _ (List.mem_of_getElem? (i := 5) rfl), inr15 _ (List.mem_of_getElem? (i := 10) rfl)⟩
theorem hdX6_isCell : yX6_isCell.cls ≠ "java/lang/invoke/MethodHandle" ∧ yX6_isCell.cls ≠ "java/lang/invoke/VarHandle" ∧ (parseMethodDescriptor yX6_isCell.desc).map (fun d => d.parameters.length) = some 1 := by decide +kernel
set_option maxHeartbeats 4000000 in
set_option maxRecDepth 100000 in
theorem kX6_isCell (l : Launch) (p1 : Int32) (res : Int32) (hf : fX6_isCell p1 = some res) : Met l yX6_isCell (cdX6_isCell :: wsL_law) rmX6_isCell (va_Pc [.int p1] (fun _ => True)) (vp_Si (fun x => x = res)) 0 0 (fun _ => False) := by
  refine Met_stz (cc := cX6_isCell) (maxL := 1) (by decide) rfl (Nat.le_of_ble_eq_true rfl) ?_
  intro P E Z Mi AR BE ME CO Q C fin ls hl
  have hl : lv_has ls 1 [(0, .int p1)] := hl
  unfold fX6_isCell at hf
  refine lv_iload_n C.1 C.2.1 (dk_at dkX6_isCell 0 rfl) rfl (lv_at hl 0 rfl) ?_
  refine lv_if_lt (tgt := 26) C.1 C.2.1 (dk_at dkX6_isCell 1 rfl) (by decide) (fun c1 => ?_) (fun c1 => ?_)
  · have hf := (if_pos c1).symm.trans hf
    refine lv_iconst (v := 0) C.1 C.2.1 (dk_at dkX6_isCell 14 rfl) (by decide) ?_
    cases hf
    exact fin _ _ _ (dk_at dkX6_isCell 15 rfl) rfl rfl
  · have hf := (if_neg c1).symm.trans hf
    refine lv_iload_n C.1 C.2.1 (dk_at dkX6_isCell 2 rfl) rfl (lv_at hl 0 rfl) ?_
    refine lv_bipush (v := 10) C.1 C.2.1 (dk_at dkX6_isCell 3 rfl) (by decide) ?_
    refine lv_idiv C.1 C.2.1 (dk_at dkX6_isCell 4 rfl) (by decide) ?_
    refine lv_topi (fun x2 ex2 => ?_)
    have hf := nm_at ex2 hf
    refine lv_bipush (v := 8) C.1 C.2.1 (dk_at dkX6_isCell 5 rfl) (by decide) ?_
    refine lv_icmp_ge (tgt := 26) C.1 C.2.1 (dk_at dkX6_isCell 6 rfl) (by decide) (fun c3 => ?_) (fun c3 => ?_)
    · have hf := (if_pos c3).symm.trans hf
      refine lv_iconst (v := 0) C.1 C.2.1 (dk_at dkX6_isCell 14 rfl) (by decide) ?_
      cases hf
      exact fin _ _ _ (dk_at dkX6_isCell 15 rfl) rfl rfl
    · have hf := (if_neg c3).symm.trans hf
      refine lv_iload_n C.1 C.2.1 (dk_at dkX6_isCell 7 rfl) rfl (lv_at hl 0 rfl) ?_
      refine lv_bipush (v := 10) C.1 C.2.1 (dk_at dkX6_isCell 8 rfl) (by decide) ?_
      refine lv_irem C.1 C.2.1 (dk_at dkX6_isCell 9 rfl) (by decide) ?_
      refine lv_topi (fun x4 ex4 => ?_)
      have hf := nm_at ex4 hf
      refine lv_bipush (v := 8) C.1 C.2.1 (dk_at dkX6_isCell 10 rfl) (by decide) ?_
      refine lv_icmp_ge (tgt := 26) C.1 C.2.1 (dk_at dkX6_isCell 11 rfl) (by decide) (fun c5 => ?_) (fun c5 => ?_)
      · have hf := (if_pos c5).symm.trans hf
        refine lv_iconst (v := 0) C.1 C.2.1 (dk_at dkX6_isCell 14 rfl) (by decide) ?_
        cases hf
        exact fin _ _ _ (dk_at dkX6_isCell 15 rfl) rfl rfl
      · have hf := (if_neg c5).symm.trans hf
        refine lv_iconst (v := 1) C.1 C.2.1 (dk_at dkX6_isCell 12 rfl) (by decide) ?_
        refine lv_goto (tgt := 27) C.1 C.2.1 (dk_at dkX6_isCell 13 rfl) (by decide) ?_
        cases hf
        exact fin _ _ _ (dk_at dkX6_isCell 15 rfl) rfl rfl
-- X6.cellAt
abbrev tbX6_cellAt : List (Nat × Instr × Nat) := [(0, .bipush 10, 2), (2, .iload_n 0, 1), (3, .bipush 8, 2), (5, .idiv, 1), (6, .imul, 1), (7, .iload_n 0, 1), (8, .bipush 8, 2), (10, .irem, 1), (11, .iadd, 1), (12, .ireturn, 1)]
theorem dkX6_cellAt : dk cX6_cellAt tbX6_cellAt := dk_of (by decide +kernel)
abbrev cdX6_cellAt : Cond := Cond.code yX6_cellAt cX6_cellAt 1 (some .int)
abbrev rmX6_cellAt : Room := { frames := 0, cells := 0, slots := 0, locals := 0 }
theorem mwX6_cellAt : Cond.static yX6_cellAt ∈ wsL_law ∧ Cond.initialized yX6_cellAt.cls ∈ wsL_law ∧ cdX6_cellAt ∈ wsL_law := ⟨inr29 _ (List.mem_of_getElem? (i := 2) rfl), inr1 _ (List.mem_of_getElem? (i := 5) rfl), inr29 _ (List.mem_of_getElem? (i := 3) rfl)⟩
theorem hdX6_cellAt : yX6_cellAt.cls ≠ "java/lang/invoke/MethodHandle" ∧ yX6_cellAt.cls ≠ "java/lang/invoke/VarHandle" ∧ (parseMethodDescriptor yX6_cellAt.desc).map (fun d => d.parameters.length) = some 1 := by decide +kernel
set_option maxHeartbeats 4000000 in
set_option maxRecDepth 100000 in
theorem kX6_cellAt (l : Launch) (p1 : Int32) (res : Int32) (hf : fX6_cellAt p1 = some res) : Met l yX6_cellAt (cdX6_cellAt :: wsL_law) rmX6_cellAt (va_Pc [.int p1] (fun _ => True)) (vp_Si (fun x => x = res)) 0 0 (fun _ => False) := by
  refine Met_sti (cc := cX6_cellAt) (maxL := 1) (by decide) rfl (Nat.le_of_ble_eq_true rfl) ?_
  intro P E Z Mi AR BE ME CO Q C fin ls hl
  have hl : lv_has ls 1 [(0, .int p1)] := hl
  unfold fX6_cellAt at hf
  refine lv_bipush (v := 10) C.1 C.2.1 (dk_at dkX6_cellAt 0 rfl) (by decide) ?_
  refine lv_iload_n C.1 C.2.1 (dk_at dkX6_cellAt 1 rfl) rfl (lv_at hl 0 rfl) ?_
  refine lv_bipush (v := 8) C.1 C.2.1 (dk_at dkX6_cellAt 2 rfl) (by decide) ?_
  refine lv_idiv C.1 C.2.1 (dk_at dkX6_cellAt 3 rfl) (by decide) ?_
  refine lv_imul C.1 C.2.1 (dk_at dkX6_cellAt 4 rfl) ?_
  refine lv_topi (fun x1 ex1 => ?_)
  have hf := nm_at ex1 hf
  refine lv_iload_n C.1 C.2.1 (dk_at dkX6_cellAt 5 rfl) rfl (lv_at hl 0 rfl) ?_
  refine lv_bipush (v := 8) C.1 C.2.1 (dk_at dkX6_cellAt 6 rfl) (by decide) ?_
  refine lv_irem C.1 C.2.1 (dk_at dkX6_cellAt 7 rfl) (by decide) ?_
  refine lv_iadd C.1 C.2.1 (dk_at dkX6_cellAt 8 rfl) ?_
  refine lv_topi (fun x2 ex2 => ?_)
  have hf := nm_at ex2 hf
  cases hf
  exact fin _ _ _ (dk_at dkX6_cellAt 9 rfl) rfl
-- X6.firstDraft
abbrev tbX6_firstDraft : List (Nat × Instr × Nat) := [(0, .iconst 0, 1), (1, .istore_n 1, 1), (2, .iload_n 1, 1), (3, .bipush 61, 2), (5, .if_icmp .ge 16, 3), (8, .aload_n 0, 1), (9, .getfield 20, 3), (12, .iload_n 1, 1), (13, .iconst 0, 1), (14, .iastore, 1), (15, .iinc 1 1, 3), (18, .goto (-16), 3), (21, .iconst 0, 1), (22, .istore_n 1, 1), (23, .iload_n 1, 1), (24, .bipush 10, 2), (26, .if_icmp .ge 19, 3), (29, .aload_n 0, 1), (30, .getfield 20, 3), (33, .bipush 8, 2), (35, .iload_n 1, 1), (36, .iadd, 1), (37, .iconst 4, 1), (38, .iastore, 1), (39, .iinc 1 1, 3), (42, .goto (-19), 3), (45, .aload_n 0, 1), (46, .iconst 0, 1), (47, .putfield 68, 3), (50, .aload_n 0, 1), (51, .iconst 0, 1), (52, .putfield 72, 3), (55, .aload_n 0, 1), (56, .iconst 0, 1), (57, .putfield 75, 3), (60, .return_, 1)]
theorem dkX6_firstDraft : dk cX6_firstDraft tbX6_firstDraft := dk_of (by decide +kernel)
abbrev cdX6_firstDraft : Cond := Cond.code yX6_firstDraft cX6_firstDraft 2 none
abbrev rmX6_firstDraft : Room := { frames := 0, cells := 0, slots := 0, locals := 0 }
theorem mwX6_firstDraft : Cond.instanceMethod yX6_firstDraft ∈ wsL_law ∧ Cond.selects RX6 yX6_firstDraft yX6_firstDraft ∈ wsL_law ∧ Cond.initialized RX6 ∈ wsL_law ∧ cdX6_firstDraft ∈ wsL_law := ⟨inr4 _ (List.mem_of_getElem? (i := 22) rfl), inr4 _ (List.mem_of_getElem? (i := 23) rfl), inr1 _ (List.mem_of_getElem? (i := 5) rfl), inr5 _ (List.mem_of_getElem? (i := 0) rfl)⟩
theorem hdX6_firstDraft : yX6_firstDraft.cls = RX6 ∧ yX6_firstDraft.cls ≠ "java/lang/invoke/MethodHandle" ∧ yX6_firstDraft.cls ≠ "java/lang/invoke/VarHandle" ∧ (parseMethodDescriptor yX6_firstDraft.desc).map (fun d => d.parameters.length) = some 0 := by decide +kernel
set_option maxHeartbeats 4000000 in
set_option maxRecDepth 100000 in
theorem kX6_firstDraft (l : Launch) (g : Gx) (sz : Nat) (a_m : Nat → Nat) (st : AI) (now : AI) (isKept : AI) (hearers : Int32) (draft : AI) (dHearers : Int32) (dWalls : Int32) (toldWinds : Int32) (tape : AI) (taped : Int32) (pos : Int32) (frm : Int32) (sort : Int32) (value : Int32) (fault : Int32) (wrongAt : Int32) (landed : AI) (landedIn : AI) (stepped : AI) (isThere : AI) (isAt : AI) (isNext : AI) (landSum : Int64) (heardSum : Int64) (allWays : Int64) (ways : AI) (drawn : AI) (lanes : AI) (sizes : AI) (cells : AI) (torn : Int32) (before : AI) (draft_o : AI) (dHearers_o : Int32) (dWalls_o : Int32) (toldWinds_o : Int32) (hf : fX6_firstDraft draft dHearers dWalls toldWinds = some (draft_o, dHearers_o, dWalls_o, toldWinds_o)) : Met l yX6_firstDraft (cdX6_firstDraft :: wsL_law) rmX6_firstDraft (va_Pc [.ref (a_m 0)] (RWp g sz (wM g a_m st now isKept hearers draft dHearers dWalls toldWinds tape taped pos frm sort value fault wrongAt landed landedIn stepped isThere isAt isNext landSum heardSum allWays ways drawn lanes sizes cells torn before))) (va_Qv (fun _ : Unit => True) (fun _ => RWq g (va_A (wM g a_m st now isKept hearers draft dHearers dWalls toldWinds tape taped pos frm sort value fault wrongAt landed landedIn stepped isThere isAt isNext landSum heardSum allWays ways drawn lanes sizes cells torn before) sz) (wM g a_m st now isKept hearers draft_o dHearers_o dWalls_o toldWinds_o tape taped pos frm sort value fault wrongAt landed landedIn stepped isThere isAt isNext landSum heardSum allWays ways drawn lanes sizes cells torn before)) (va_A (wM g a_m st now isKept hearers draft dHearers dWalls toldWinds tape taped pos frm sort value fault wrongAt landed landedIn stepped isThere isAt isNext landSum heardSum allWays ways drawn lanes sizes cells torn before) sz)) 0 0 (va_A (wM g a_m st now isKept hearers draft dHearers dWalls toldWinds tape taped pos frm sort value fault wrongAt landed landedIn stepped isThere isAt isNext landSum heardSum allWays ways drawn lanes sizes cells torn before) sz) := by
  refine Met_rwv (cc := cX6_firstDraft) (maxL := 2) (by decide) rfl (Nat.le_of_ble_eq_true rfl) ?_
  intro P E Z Mi AR BE ME CO A Q C hK hA fin w ls hl
  have hl : lv_has ls 2 [(0, .ref (a_m 0))] := hl
  unfold fX6_firstDraft at hf
  refine lv_iconst (v := 0) C.1 C.2.1 (dk_at dkX6_firstDraft 0 rfl) (by decide) ?_
  refine lv_istore_n (lv' := [(1, .int 0), (0, .ref (a_m 0))]) C.1 C.2.1 (dk_at dkX6_firstDraft 1 rfl) rfl hl (by decide) rfl (fun ls hl => ?_)
  have L3 : ∀ (K : Int32 → AI → Option (AI × Int32 × Int32 × Int32)), (∀ (v1 : Int32) (draft_2 : AI) (H : Heap) (locs : List Loc) (ls : Array Slot), Wd g A Z.heap (wM g a_m st now isKept hearers draft_2 dHearers dWalls toldWinds tape taped pos frm sort value fault wrongAt landed landedIn stepped isThere isAt isNext landSum heardSum allWays ways drawn lanes sizes cells torn before) H locs → lv_has ls 2 [(0, .ref (a_m 0))] → K v1 draft_2 = some (draft_o, dHearers_o, dWalls_o, toldWinds_o) → W P l E rmX6_firstDraft Z Mi AR BE ME CO H locs 0 0 Q (F0 Mi 21 ls [])) → ∀ (n : Nat), ∀ (v1 : Int32) (draft_2 : AI) (H : Heap) (locs : List Loc) (ls : Array Slot), Wd g A Z.heap (wM g a_m st now isKept hearers draft_2 dHearers dWalls toldWinds tape taped pos frm sort value fault wrongAt landed landedIn stepped isThere isAt isNext landSum heardSum allWays ways drawn lanes sizes cells torn before) H locs → lv_has ls 2 [(1, .int v1), (0, .ref (a_m 0))] → fX6_firstDraft_L2 K n v1 draft_2 = some (draft_o, dHearers_o, dWalls_o, toldWinds_o) → W P l E rmX6_firstDraft Z Mi AR BE ME CO H locs 0 0 Q (F0 Mi 2 ls []) := by
    intro K hKe n
    induction n with
    | zero => intro v1 draft_2 H locs ls w hl hf; cases hf
    | succ n ih =>
      intro v1 draft_2 H locs ls w hl hf
      rw [fX6_firstDraft_L2] at hf
      refine lv_iload_n C.1 C.2.1 (dk_at dkX6_firstDraft 2 rfl) rfl (lv_at hl 0 rfl) ?_
      refine lv_bipush (v := 61) C.1 C.2.1 (dk_at dkX6_firstDraft 3 rfl) (by decide) ?_
      refine lv_icmp_ge (tgt := 21) C.1 C.2.1 (dk_at dkX6_firstDraft 4 rfl) (by decide) (fun c4 => ?_) (fun c4 => ?_)
      · have hf := (if_pos c4).symm.trans hf
        exact hKe v1 draft_2 _ _ _ w (lv_sub hl [1] rfl) hf
      · have hf := (if_neg c4).symm.trans hf
        refine lv_aload_n C.1 C.2.1 (dk_at dkX6_firstDraft 5 rfl) rfl (lv_at hl 1 rfl) ?_
        refine r_get (v := .ref (a_m 4)) C hK w.1 (fun w h => List.mem_cons_of_mem _ (inlX6 w h)) 0 rfl rfl 4 (by decide) (List.mem_cons_of_mem _ (inr4 _ (List.mem_of_getElem? (i := 7) rfl))) rfl (dk_at dkX6_firstDraft 6 rfl) ?_
        refine lv_iload_n C.1 C.2.1 (dk_at dkX6_firstDraft 7 rfl) rfl (lv_at hl 0 rfl) ?_
        refine lv_iconst (v := 0) C.1 C.2.1 (dk_at dkX6_firstDraft 8 rfl) (by decide) ?_
        obtain ⟨h5, hf⟩ := gd_at hf
        refine r_iast (k := v1.toNatClampNeg) (f := draft_2) C hK w 4 rfl h5 rfl (dk_at dkX6_firstDraft 9 rfl) (fun H locs w => ?_)
        obtain ⟨draft_6, edraft_6⟩ : ∃ z : AI, z = upd draft_2 v1.toNatClampNeg 0 := ⟨_, rfl⟩
        have hf := nm_at edraft_6 hf
        have w : Wd g A Z.heap (wM g a_m st now isKept hearers draft_6 dHearers dWalls toldWinds tape taped pos frm sort value fault wrongAt landed landedIn stepped isThere isAt isNext landSum heardSum allWays ways drawn lanes sizes cells torn before) H locs := by rw [edraft_6]; exact w
        obtain ⟨x7, ex7⟩ : ∃ z : Int32, z = v1 + 1 := ⟨_, rfl⟩
        have hf := nm_at ex7 hf
        refine lv_iinc (v := x7) (lv' := [(1, .int x7), (0, .ref (a_m 0))]) C.1 C.2.1 (dk_at dkX6_firstDraft 10 rfl) hl (k := 0) rfl (by rw [ex7]; rfl) (by decide) rfl (fun ls hl => ?_)
        refine lv_goto (tgt := 2) C.1 C.2.1 (dk_at dkX6_firstDraft 11 rfl) (by decide) ?_
        exact ih x7 draft_6 _ _ _ w (lv_sub hl [0, 1] rfl) hf
  refine L3 _ ?_ 4096 0 draft _ _ _ w (lv_sub hl [0, 1] rfl) hf
  clear hf
  intro v1 draft_2 H locs ls w hl hf
  refine lv_iconst (v := 0) C.1 C.2.1 (dk_at dkX6_firstDraft 12 rfl) (by decide) ?_
  refine lv_istore_n (lv' := [(1, .int 0), (0, .ref (a_m 0))]) C.1 C.2.1 (dk_at dkX6_firstDraft 13 rfl) rfl hl (by decide) rfl (fun ls hl => ?_)
  have L10 : ∀ (K : Int32 → AI → Option (AI × Int32 × Int32 × Int32)), (∀ (v8 : Int32) (draft_9 : AI) (H : Heap) (locs : List Loc) (ls : Array Slot), Wd g A Z.heap (wM g a_m st now isKept hearers draft_9 dHearers dWalls toldWinds tape taped pos frm sort value fault wrongAt landed landedIn stepped isThere isAt isNext landSum heardSum allWays ways drawn lanes sizes cells torn before) H locs → lv_has ls 2 [(0, .ref (a_m 0))] → K v8 draft_9 = some (draft_o, dHearers_o, dWalls_o, toldWinds_o) → W P l E rmX6_firstDraft Z Mi AR BE ME CO H locs 0 0 Q (F0 Mi 45 ls [])) → ∀ (n : Nat), ∀ (v8 : Int32) (draft_9 : AI) (H : Heap) (locs : List Loc) (ls : Array Slot), Wd g A Z.heap (wM g a_m st now isKept hearers draft_9 dHearers dWalls toldWinds tape taped pos frm sort value fault wrongAt landed landedIn stepped isThere isAt isNext landSum heardSum allWays ways drawn lanes sizes cells torn before) H locs → lv_has ls 2 [(1, .int v8), (0, .ref (a_m 0))] → fX6_firstDraft_L23 K n v8 draft_9 = some (draft_o, dHearers_o, dWalls_o, toldWinds_o) → W P l E rmX6_firstDraft Z Mi AR BE ME CO H locs 0 0 Q (F0 Mi 23 ls []) := by
    intro K hKe n
    induction n with
    | zero => intro v8 draft_9 H locs ls w hl hf; cases hf
    | succ n ih =>
      intro v8 draft_9 H locs ls w hl hf
      rw [fX6_firstDraft_L23] at hf
      refine lv_iload_n C.1 C.2.1 (dk_at dkX6_firstDraft 14 rfl) rfl (lv_at hl 0 rfl) ?_
      refine lv_bipush (v := 10) C.1 C.2.1 (dk_at dkX6_firstDraft 15 rfl) (by decide) ?_
      refine lv_icmp_ge (tgt := 45) C.1 C.2.1 (dk_at dkX6_firstDraft 16 rfl) (by decide) (fun c11 => ?_) (fun c11 => ?_)
      · have hf := (if_pos c11).symm.trans hf
        exact hKe v8 draft_9 _ _ _ w (lv_sub hl [1] rfl) hf
      · have hf := (if_neg c11).symm.trans hf
        refine lv_aload_n C.1 C.2.1 (dk_at dkX6_firstDraft 17 rfl) rfl (lv_at hl 1 rfl) ?_
        refine r_get (v := .ref (a_m 4)) C hK w.1 (fun w h => List.mem_cons_of_mem _ (inlX6 w h)) 0 rfl rfl 4 (by decide) (List.mem_cons_of_mem _ (inr4 _ (List.mem_of_getElem? (i := 7) rfl))) rfl (dk_at dkX6_firstDraft 18 rfl) ?_
        refine lv_bipush (v := 8) C.1 C.2.1 (dk_at dkX6_firstDraft 19 rfl) (by decide) ?_
        refine lv_iload_n C.1 C.2.1 (dk_at dkX6_firstDraft 20 rfl) rfl (lv_at hl 0 rfl) ?_
        refine lv_iadd C.1 C.2.1 (dk_at dkX6_firstDraft 21 rfl) ?_
        refine lv_topi (fun x12 ex12 => ?_)
        have hf := nm_at ex12 hf
        refine lv_iconst (v := 4) C.1 C.2.1 (dk_at dkX6_firstDraft 22 rfl) (by decide) ?_
        obtain ⟨h13, hf⟩ := gd_at hf
        refine r_iast (k := x12.toNatClampNeg) (f := draft_9) C hK w 4 rfl h13 rfl (dk_at dkX6_firstDraft 23 rfl) (fun H locs w => ?_)
        obtain ⟨draft_14, edraft_14⟩ : ∃ z : AI, z = upd draft_9 x12.toNatClampNeg 4 := ⟨_, rfl⟩
        have hf := nm_at edraft_14 hf
        have w : Wd g A Z.heap (wM g a_m st now isKept hearers draft_14 dHearers dWalls toldWinds tape taped pos frm sort value fault wrongAt landed landedIn stepped isThere isAt isNext landSum heardSum allWays ways drawn lanes sizes cells torn before) H locs := by rw [edraft_14]; exact w
        obtain ⟨x15, ex15⟩ : ∃ z : Int32, z = v8 + 1 := ⟨_, rfl⟩
        have hf := nm_at ex15 hf
        refine lv_iinc (v := x15) (lv' := [(1, .int x15), (0, .ref (a_m 0))]) C.1 C.2.1 (dk_at dkX6_firstDraft 24 rfl) hl (k := 0) rfl (by rw [ex15]; rfl) (by decide) rfl (fun ls hl => ?_)
        refine lv_goto (tgt := 23) C.1 C.2.1 (dk_at dkX6_firstDraft 25 rfl) (by decide) ?_
        exact ih x15 draft_14 _ _ _ w (lv_sub hl [0, 1] rfl) hf
  refine L10 _ ?_ 4096 0 draft_2 _ _ _ w (lv_sub hl [0, 1] rfl) hf
  clear hf
  intro v8 draft_9 H locs ls w hl hf
  refine lv_aload_n C.1 C.2.1 (dk_at dkX6_firstDraft 26 rfl) rfl (lv_at hl 0 rfl) ?_
  refine lv_iconst (v := 0) C.1 C.2.1 (dk_at dkX6_firstDraft 27 rfl) (by decide) ?_
  refine r_put (v := .int 0) C hK w (fun w h => List.mem_cons_of_mem _ (inlX6 w h)) tyX6 tyX6_ok nmX6 0 rfl rfl 5 (by decide) (List.mem_cons_of_mem _ (inr5 _ (List.mem_of_getElem? (i := 1) rfl))) rfl rfl rfl (Nat.le_of_ble_eq_true rfl) (dk_at dkX6_firstDraft 28 rfl) (fun H locs w => ?_)
  have w : Wd g A Z.heap (wM g a_m st now isKept hearers draft_9 0 dWalls toldWinds tape taped pos frm sort value fault wrongAt landed landedIn stepped isThere isAt isNext landSum heardSum allWays ways drawn lanes sizes cells torn before) H locs := w
  refine lv_aload_n C.1 C.2.1 (dk_at dkX6_firstDraft 29 rfl) rfl (lv_at hl 0 rfl) ?_
  refine lv_iconst (v := 0) C.1 C.2.1 (dk_at dkX6_firstDraft 30 rfl) (by decide) ?_
  refine r_put (v := .int 0) C hK w (fun w h => List.mem_cons_of_mem _ (inlX6 w h)) tyX6 tyX6_ok nmX6 0 rfl rfl 6 (by decide) (List.mem_cons_of_mem _ (inr5 _ (List.mem_of_getElem? (i := 2) rfl))) rfl rfl rfl (Nat.le_of_ble_eq_true rfl) (dk_at dkX6_firstDraft 31 rfl) (fun H locs w => ?_)
  have w : Wd g A Z.heap (wM g a_m st now isKept hearers draft_9 0 0 toldWinds tape taped pos frm sort value fault wrongAt landed landedIn stepped isThere isAt isNext landSum heardSum allWays ways drawn lanes sizes cells torn before) H locs := w
  refine lv_aload_n C.1 C.2.1 (dk_at dkX6_firstDraft 32 rfl) rfl (lv_at hl 0 rfl) ?_
  refine lv_iconst (v := 0) C.1 C.2.1 (dk_at dkX6_firstDraft 33 rfl) (by decide) ?_
  refine r_put (v := .int 0) C hK w (fun w h => List.mem_cons_of_mem _ (inlX6 w h)) tyX6 tyX6_ok nmX6 0 rfl rfl 7 (by decide) (List.mem_cons_of_mem _ (inr5 _ (List.mem_of_getElem? (i := 3) rfl))) rfl rfl rfl (Nat.le_of_ble_eq_true rfl) (dk_at dkX6_firstDraft 34 rfl) (fun H locs w => ?_)
  have w : Wd g A Z.heap (wM g a_m st now isKept hearers draft_9 0 0 0 tape taped pos frm sort value fault wrongAt landed landedIn stepped isThere isAt isNext landSum heardSum allWays ways drawn lanes sizes cells torn before) H locs := w
  cases hf
  exact fin _ _ _ _ (dk_at dkX6_firstDraft 35 rfl) w
-- X6.keepDraft
abbrev tbX6_keepDraft : List (Nat × Instr × Nat) := [(0, .iconst 0, 1), (1, .istore_n 1, 1), (2, .iload_n 1, 1), (3, .bipush 61, 2), (5, .if_icmp .ge 21, 3), (8, .aload_n 0, 1), (9, .getfield 7, 3), (12, .iload_n 1, 1), (13, .aload_n 0, 1), (14, .getfield 20, 3), (17, .iload_n 1, 1), (18, .iaload, 1), (19, .iastore, 1), (20, .iinc 1 1, 3), (23, .goto (-21), 3), (26, .aload_n 0, 1), (27, .aload_n 0, 1), (28, .getfield 68, 3), (31, .putfield 78, 3), (34, .aload_n 0, 1), (35, .getfield 16, 3), (38, .iconst 0, 1), (39, .iconst 0, 1), (40, .bastore, 1), (41, .aload_n 0, 1), (42, .getfield 16, 3), (45, .iconst 1, 1), (46, .iconst 0, 1), (47, .bastore, 1), (48, .return_, 1)]
theorem dkX6_keepDraft : dk cX6_keepDraft tbX6_keepDraft := dk_of (by decide +kernel)
abbrev cdX6_keepDraft : Cond := Cond.code yX6_keepDraft cX6_keepDraft 2 none
abbrev rmX6_keepDraft : Room := { frames := 0, cells := 0, slots := 0, locals := 0 }
theorem mwX6_keepDraft : Cond.instanceMethod yX6_keepDraft ∈ wsL_law ∧ Cond.selects RX6 yX6_keepDraft yX6_keepDraft ∈ wsL_law ∧ Cond.initialized RX6 ∈ wsL_law ∧ cdX6_keepDraft ∈ wsL_law := ⟨inr5 _ (List.mem_of_getElem? (i := 5) rfl), inr5 _ (List.mem_of_getElem? (i := 6) rfl), inr1 _ (List.mem_of_getElem? (i := 5) rfl), inr5 _ (List.mem_of_getElem? (i := 7) rfl)⟩
theorem hdX6_keepDraft : yX6_keepDraft.cls = RX6 ∧ yX6_keepDraft.cls ≠ "java/lang/invoke/MethodHandle" ∧ yX6_keepDraft.cls ≠ "java/lang/invoke/VarHandle" ∧ (parseMethodDescriptor yX6_keepDraft.desc).map (fun d => d.parameters.length) = some 0 := by decide +kernel
set_option maxHeartbeats 4000000 in
set_option maxRecDepth 100000 in
theorem kX6_keepDraft (l : Launch) (g : Gx) (sz : Nat) (a_m : Nat → Nat) (st : AI) (now : AI) (isKept : AI) (hearers : Int32) (draft : AI) (dHearers : Int32) (dWalls : Int32) (toldWinds : Int32) (tape : AI) (taped : Int32) (pos : Int32) (frm : Int32) (sort : Int32) (value : Int32) (fault : Int32) (wrongAt : Int32) (landed : AI) (landedIn : AI) (stepped : AI) (isThere : AI) (isAt : AI) (isNext : AI) (landSum : Int64) (heardSum : Int64) (allWays : Int64) (ways : AI) (drawn : AI) (lanes : AI) (sizes : AI) (cells : AI) (torn : Int32) (before : AI) (st_o : AI) (isKept_o : AI) (hearers_o : Int32) (hf : fX6_keepDraft st isKept hearers draft dHearers = some (st_o, isKept_o, hearers_o)) : Met l yX6_keepDraft (cdX6_keepDraft :: wsL_law) rmX6_keepDraft (va_Pc [.ref (a_m 0)] (RWp g sz (wM g a_m st now isKept hearers draft dHearers dWalls toldWinds tape taped pos frm sort value fault wrongAt landed landedIn stepped isThere isAt isNext landSum heardSum allWays ways drawn lanes sizes cells torn before))) (va_Qv (fun _ : Unit => True) (fun _ => RWq g (va_A (wM g a_m st now isKept hearers draft dHearers dWalls toldWinds tape taped pos frm sort value fault wrongAt landed landedIn stepped isThere isAt isNext landSum heardSum allWays ways drawn lanes sizes cells torn before) sz) (wM g a_m st_o now isKept_o hearers_o draft dHearers dWalls toldWinds tape taped pos frm sort value fault wrongAt landed landedIn stepped isThere isAt isNext landSum heardSum allWays ways drawn lanes sizes cells torn before)) (va_A (wM g a_m st now isKept hearers draft dHearers dWalls toldWinds tape taped pos frm sort value fault wrongAt landed landedIn stepped isThere isAt isNext landSum heardSum allWays ways drawn lanes sizes cells torn before) sz)) 0 0 (va_A (wM g a_m st now isKept hearers draft dHearers dWalls toldWinds tape taped pos frm sort value fault wrongAt landed landedIn stepped isThere isAt isNext landSum heardSum allWays ways drawn lanes sizes cells torn before) sz) := by
  refine Met_rwv (cc := cX6_keepDraft) (maxL := 2) (by decide) rfl (Nat.le_of_ble_eq_true rfl) ?_
  intro P E Z Mi AR BE ME CO A Q C hK hA fin w ls hl
  have hl : lv_has ls 2 [(0, .ref (a_m 0))] := hl
  unfold fX6_keepDraft at hf
  refine lv_iconst (v := 0) C.1 C.2.1 (dk_at dkX6_keepDraft 0 rfl) (by decide) ?_
  refine lv_istore_n (lv' := [(1, .int 0), (0, .ref (a_m 0))]) C.1 C.2.1 (dk_at dkX6_keepDraft 1 rfl) rfl hl (by decide) rfl (fun ls hl => ?_)
  have L3 : ∀ (K : Int32 → AI → Option (AI × AI × Int32)), (∀ (v1 : Int32) (st_2 : AI) (H : Heap) (locs : List Loc) (ls : Array Slot), Wd g A Z.heap (wM g a_m st_2 now isKept hearers draft dHearers dWalls toldWinds tape taped pos frm sort value fault wrongAt landed landedIn stepped isThere isAt isNext landSum heardSum allWays ways drawn lanes sizes cells torn before) H locs → lv_has ls 2 [(0, .ref (a_m 0))] → K v1 st_2 = some (st_o, isKept_o, hearers_o) → W P l E rmX6_keepDraft Z Mi AR BE ME CO H locs 0 0 Q (F0 Mi 26 ls [])) → ∀ (n : Nat), ∀ (v1 : Int32) (st_2 : AI) (H : Heap) (locs : List Loc) (ls : Array Slot), Wd g A Z.heap (wM g a_m st_2 now isKept hearers draft dHearers dWalls toldWinds tape taped pos frm sort value fault wrongAt landed landedIn stepped isThere isAt isNext landSum heardSum allWays ways drawn lanes sizes cells torn before) H locs → lv_has ls 2 [(1, .int v1), (0, .ref (a_m 0))] → fX6_keepDraft_L2 draft K n v1 st_2 = some (st_o, isKept_o, hearers_o) → W P l E rmX6_keepDraft Z Mi AR BE ME CO H locs 0 0 Q (F0 Mi 2 ls []) := by
    intro K hKe n
    induction n with
    | zero => intro v1 st_2 H locs ls w hl hf; cases hf
    | succ n ih =>
      intro v1 st_2 H locs ls w hl hf
      rw [fX6_keepDraft_L2] at hf
      refine lv_iload_n C.1 C.2.1 (dk_at dkX6_keepDraft 2 rfl) rfl (lv_at hl 0 rfl) ?_
      refine lv_bipush (v := 61) C.1 C.2.1 (dk_at dkX6_keepDraft 3 rfl) (by decide) ?_
      refine lv_icmp_ge (tgt := 26) C.1 C.2.1 (dk_at dkX6_keepDraft 4 rfl) (by decide) (fun c4 => ?_) (fun c4 => ?_)
      · have hf := (if_pos c4).symm.trans hf
        exact hKe v1 st_2 _ _ _ w (lv_sub hl [1] rfl) hf
      · have hf := (if_neg c4).symm.trans hf
        refine lv_aload_n C.1 C.2.1 (dk_at dkX6_keepDraft 5 rfl) rfl (lv_at hl 1 rfl) ?_
        refine r_get (v := .ref (a_m 1)) C hK w.1 (fun w h => List.mem_cons_of_mem _ (inlX6 w h)) 0 rfl rfl 0 (by decide) (List.mem_cons_of_mem _ (inr4 _ (List.mem_of_getElem? (i := 4) rfl))) rfl (dk_at dkX6_keepDraft 6 rfl) ?_
        refine lv_iload_n C.1 C.2.1 (dk_at dkX6_keepDraft 7 rfl) rfl (lv_at hl 0 rfl) ?_
        refine lv_aload_n C.1 C.2.1 (dk_at dkX6_keepDraft 8 rfl) rfl (lv_at hl 1 rfl) ?_
        refine r_get (v := .ref (a_m 4)) C hK w.1 (fun w h => List.mem_cons_of_mem _ (inlX6 w h)) 0 rfl rfl 4 (by decide) (List.mem_cons_of_mem _ (inr4 _ (List.mem_of_getElem? (i := 7) rfl))) rfl (dk_at dkX6_keepDraft 9 rfl) ?_
        refine lv_iload_n C.1 C.2.1 (dk_at dkX6_keepDraft 10 rfl) rfl (lv_at hl 0 rfl) ?_
        obtain ⟨h5, hf⟩ := gd_at hf
        refine r_iald (k := v1.toNatClampNeg) (f := draft) C hK w.1 4 rfl h5 rfl (dk_at dkX6_keepDraft 11 rfl) ?_
        refine lv_topi (fun x6 ex6 => ?_)
        have hf := nm_at ex6 hf
        obtain ⟨h7, hf⟩ := gd_at hf
        refine r_iast (k := v1.toNatClampNeg) (f := st_2) C hK w 1 rfl h7 rfl (dk_at dkX6_keepDraft 12 rfl) (fun H locs w => ?_)
        obtain ⟨st_8, est_8⟩ : ∃ z : AI, z = upd st_2 v1.toNatClampNeg x6 := ⟨_, rfl⟩
        have hf := nm_at est_8 hf
        have w : Wd g A Z.heap (wM g a_m st_8 now isKept hearers draft dHearers dWalls toldWinds tape taped pos frm sort value fault wrongAt landed landedIn stepped isThere isAt isNext landSum heardSum allWays ways drawn lanes sizes cells torn before) H locs := by rw [est_8]; exact w
        obtain ⟨x9, ex9⟩ : ∃ z : Int32, z = v1 + 1 := ⟨_, rfl⟩
        have hf := nm_at ex9 hf
        refine lv_iinc (v := x9) (lv' := [(1, .int x9), (0, .ref (a_m 0))]) C.1 C.2.1 (dk_at dkX6_keepDraft 13 rfl) hl (k := 0) rfl (by rw [ex9]; rfl) (by decide) rfl (fun ls hl => ?_)
        refine lv_goto (tgt := 2) C.1 C.2.1 (dk_at dkX6_keepDraft 14 rfl) (by decide) ?_
        exact ih x9 st_8 _ _ _ w (lv_sub hl [0, 1] rfl) hf
  refine L3 _ ?_ 4096 0 st _ _ _ w (lv_sub hl [0, 1] rfl) hf
  clear hf
  intro v1 st_2 H locs ls w hl hf
  refine lv_aload_n C.1 C.2.1 (dk_at dkX6_keepDraft 15 rfl) rfl (lv_at hl 0 rfl) ?_
  refine lv_aload_n C.1 C.2.1 (dk_at dkX6_keepDraft 16 rfl) rfl (lv_at hl 0 rfl) ?_
  refine r_get (v := .int dHearers) C hK w.1 (fun w h => List.mem_cons_of_mem _ (inlX6 w h)) 0 rfl rfl 5 (by decide) (List.mem_cons_of_mem _ (inr5 _ (List.mem_of_getElem? (i := 1) rfl))) rfl (dk_at dkX6_keepDraft 17 rfl) ?_
  refine r_put (v := .int dHearers) C hK w (fun w h => List.mem_cons_of_mem _ (inlX6 w h)) tyX6 tyX6_ok nmX6 0 rfl rfl 3 (by decide) (List.mem_cons_of_mem _ (inr5 _ (List.mem_of_getElem? (i := 8) rfl))) rfl rfl rfl (Nat.le_of_ble_eq_true rfl) (dk_at dkX6_keepDraft 18 rfl) (fun H locs w => ?_)
  have w : Wd g A Z.heap (wM g a_m st_2 now isKept dHearers draft dHearers dWalls toldWinds tape taped pos frm sort value fault wrongAt landed landedIn stepped isThere isAt isNext landSum heardSum allWays ways drawn lanes sizes cells torn before) H locs := w
  refine lv_aload_n C.1 C.2.1 (dk_at dkX6_keepDraft 19 rfl) rfl (lv_at hl 0 rfl) ?_
  refine r_get (v := .ref (a_m 3)) C hK w.1 (fun w h => List.mem_cons_of_mem _ (inlX6 w h)) 0 rfl rfl 2 (by decide) (List.mem_cons_of_mem _ (inr4 _ (List.mem_of_getElem? (i := 6) rfl))) rfl (dk_at dkX6_keepDraft 20 rfl) ?_
  refine lv_iconst (v := 0) C.1 C.2.1 (dk_at dkX6_keepDraft 21 rfl) (by decide) ?_
  refine lv_iconst (v := 0) C.1 C.2.1 (dk_at dkX6_keepDraft 22 rfl) (by decide) ?_
  refine r_zast (k := 0) (f := isKept) C hK w 3 rfl (in_c (by decide)) (by decide) (dk_at dkX6_keepDraft 23 rfl) (fun H locs w => ?_)
  obtain ⟨isKept_10, eisKept_10⟩ : ∃ z : AI, z = upd isKept 0 (vp_nar .boolean 0) := ⟨_, rfl⟩
  have hf := nm_at eisKept_10 hf
  have w : Wd g A Z.heap (wM g a_m st_2 now isKept_10 dHearers draft dHearers dWalls toldWinds tape taped pos frm sort value fault wrongAt landed landedIn stepped isThere isAt isNext landSum heardSum allWays ways drawn lanes sizes cells torn before) H locs := by rw [eisKept_10]; exact w
  refine lv_aload_n C.1 C.2.1 (dk_at dkX6_keepDraft 24 rfl) rfl (lv_at hl 0 rfl) ?_
  refine r_get (v := .ref (a_m 3)) C hK w.1 (fun w h => List.mem_cons_of_mem _ (inlX6 w h)) 0 rfl rfl 2 (by decide) (List.mem_cons_of_mem _ (inr4 _ (List.mem_of_getElem? (i := 6) rfl))) rfl (dk_at dkX6_keepDraft 25 rfl) ?_
  refine lv_iconst (v := 1) C.1 C.2.1 (dk_at dkX6_keepDraft 26 rfl) (by decide) ?_
  refine lv_iconst (v := 0) C.1 C.2.1 (dk_at dkX6_keepDraft 27 rfl) (by decide) ?_
  refine r_zast (k := 1) (f := isKept_10) C hK w 3 rfl (in_c (by decide)) (by decide) (dk_at dkX6_keepDraft 28 rfl) (fun H locs w => ?_)
  obtain ⟨isKept_11, eisKept_11⟩ : ∃ z : AI, z = upd isKept_10 1 (vp_nar .boolean 0) := ⟨_, rfl⟩
  have hf := nm_at eisKept_11 hf
  have w : Wd g A Z.heap (wM g a_m st_2 now isKept_11 dHearers draft dHearers dWalls toldWinds tape taped pos frm sort value fault wrongAt landed landedIn stepped isThere isAt isNext landSum heardSum allWays ways drawn lanes sizes cells torn before) H locs := by rw [eisKept_11]; exact w
  cases hf
  exact fin _ _ _ _ (dk_at dkX6_keepDraft 29 rfl) w
-- X6.feed
abbrev tbX6_feed : List (Nat × Instr × Nat) := [(0, .iload_n 1, 1), (1, .i2l, 1), (2, .lconst 0, 1), (3, .ldc2_w 81, 3), (6, .invokestatic 83, 3), (9, .ifCond .ne 5, 3), (12, .iconst (-1), 1), (13, .ireturn, 1), (14, .aload_n 0, 1), (15, .getfield 87, 3), (18, .sipush 160, 3), (21, .if_icmp .ne 6, 3), (24, .bipush (-3), 2), (26, .ireturn, 1), (27, .aload_n 0, 1), (28, .getfield 23, 3), (31, .aload_n 0, 1), (32, .getfield 87, 3), (35, .iload_n 1, 1), (36, .iastore, 1), (37, .aload_n 0, 1), (38, .dup, 1), (39, .getfield 87, 3), (42, .iconst 1, 1), (43, .iadd, 1), (44, .putfield 87, 3), (47, .aload_n 0, 1), (48, .getfield 87, 3), (51, .ireturn, 1)]
theorem dkX6_feed : dk cX6_feed tbX6_feed := dk_of (by decide +kernel)
abbrev cdX6_feed : Cond := Cond.code yX6_feed cX6_feed 2 (some .int)
abbrev rmX6_feed : Room := { frames := 1, cells := 0, slots := 0, locals := 25 }
theorem mwX6_feed : Cond.instanceMethod yX6_feed ∈ wsL_law ∧ Cond.selects RX6 yX6_feed yX6_feed ∈ wsL_law ∧ Cond.initialized RX6 ∈ wsL_law ∧ cdX6_feed ∈ wsL_law := ⟨inr5 _ (List.mem_of_getElem? (i := 16) rfl), inr5 _ (List.mem_of_getElem? (i := 17) rfl), inr1 _ (List.mem_of_getElem? (i := 5) rfl), inr5 _ (List.mem_of_getElem? (i := 18) rfl)⟩
theorem hdX6_feed : yX6_feed.cls = RX6 ∧ yX6_feed.cls ≠ "java/lang/invoke/MethodHandle" ∧ yX6_feed.cls ≠ "java/lang/invoke/VarHandle" ∧ (parseMethodDescriptor yX6_feed.desc).map (fun d => d.parameters.length) = some 1 := by decide +kernel
set_option maxHeartbeats 4000000 in
set_option maxRecDepth 100000 in
theorem kX6_feed (l : Launch) (g : Gx) (sz : Nat) (a_m : Nat → Nat) (st : AI) (now : AI) (isKept : AI) (hearers : Int32) (draft : AI) (dHearers : Int32) (dWalls : Int32) (toldWinds : Int32) (tape : AI) (taped : Int32) (pos : Int32) (frm : Int32) (sort : Int32) (value : Int32) (fault : Int32) (wrongAt : Int32) (landed : AI) (landedIn : AI) (stepped : AI) (isThere : AI) (isAt : AI) (isNext : AI) (landSum : Int64) (heardSum : Int64) (allWays : Int64) (ways : AI) (drawn : AI) (lanes : AI) (sizes : AI) (cells : AI) (torn : Int32) (before : AI) (p1 : Int32) (res : Int32) (tape_o : AI) (taped_o : Int32) (hf : fX6_feed p1 tape taped = some (res, tape_o, taped_o)) : Met l yX6_feed (cdX6_feed :: wsL_law) rmX6_feed (va_Pc [.ref (a_m 0), .int p1] (RWp g sz (wM g a_m st now isKept hearers draft dHearers dWalls toldWinds tape taped pos frm sort value fault wrongAt landed landedIn stepped isThere isAt isNext landSum heardSum allWays ways drawn lanes sizes cells torn before))) (va_Qi (fun x (_ : Unit) => x = res) (fun _ => RWq g (va_A (wM g a_m st now isKept hearers draft dHearers dWalls toldWinds tape taped pos frm sort value fault wrongAt landed landedIn stepped isThere isAt isNext landSum heardSum allWays ways drawn lanes sizes cells torn before) sz) (wM g a_m st now isKept hearers draft dHearers dWalls toldWinds tape_o taped_o pos frm sort value fault wrongAt landed landedIn stepped isThere isAt isNext landSum heardSum allWays ways drawn lanes sizes cells torn before)) (va_A (wM g a_m st now isKept hearers draft dHearers dWalls toldWinds tape taped pos frm sort value fault wrongAt landed landedIn stepped isThere isAt isNext landSum heardSum allWays ways drawn lanes sizes cells torn before) sz)) 0 0 (va_A (wM g a_m st now isKept hearers draft dHearers dWalls toldWinds tape taped pos frm sort value fault wrongAt landed landedIn stepped isThere isAt isNext landSum heardSum allWays ways drawn lanes sizes cells torn before) sz) := by
  refine Met_rwi (cc := cX6_feed) (maxL := 2) (by decide) rfl (Nat.le_of_ble_eq_true rfl) ?_
  intro P E Z Mi AR BE ME CO A Q C hK hA fin w ls hl
  have hl : lv_has ls 2 [(0, .ref (a_m 0)), (1, .int p1)] := hl
  unfold fX6_feed at hf
  refine lv_iload_n C.1 C.2.1 (dk_at dkX6_feed 0 rfl) rfl (lv_at hl 1 rfl) ?_
  refine lv_i2l C.1 C.2.1 (dk_at dkX6_feed 1 rfl) rfl ?_
  refine lv_topl (fun x1 ex1 => ?_)
  have hf := nm_at ex1 hf
  refine lv_lconst (v := 0) C.1 C.2.1 (dk_at dkX6_feed 2 rfl) (by decide) ?_
  refine lv_ldc2 (v := 127) C.1 C.2.1 C.2.2.2.1 (C.2.2.2.2 _ (List.mem_cons_of_mem _ (inr5 _ (List.mem_of_getElem? (i := 19) rfl)))) (dk_at dkX6_feed 3 rfl) ?_
  obtain ⟨r2, hq3, hf⟩ := bd1_at hf
  refine r_st (As := [.long x1, .long 0, .long 127]) (rest := []) C (kX6_in l x1 0 127 r2 hq3) (cwS0 C (inr5 _ (List.mem_of_getElem? (i := 21) rfl)) mwX6_in hdX6_in ⟨Nat.le_of_ble_eq_true rfl, Nat.le_of_ble_eq_true rfl⟩) rfl hl.1 rfl (Nat.le_of_ble_eq_true rfl) ⟨Nat.zero_le _, Nat.zero_le _⟩ (dk_at dkX6_feed 4 rfl) ?_
  refine lv_if_ne (tgt := 14) C.1 C.2.1 (dk_at dkX6_feed 5 rfl) (by decide) (fun c4 => ?_) (fun c4 => ?_)
  · have hf := (if_neg c4).symm.trans hf
    refine lv_aload_n C.1 C.2.1 (dk_at dkX6_feed 8 rfl) rfl (lv_at hl 0 rfl) ?_
    refine r_get (v := .int taped) C hK w.1 (fun w h => List.mem_cons_of_mem _ (inlX6 w h)) 0 rfl rfl 9 (by decide) (List.mem_cons_of_mem _ (inr5 _ (List.mem_of_getElem? (i := 20) rfl))) rfl (dk_at dkX6_feed 9 rfl) ?_
    refine lv_sipush (v := 160) C.1 C.2.1 (dk_at dkX6_feed 10 rfl) (by decide) ?_
    refine lv_icmp_ne (tgt := 27) C.1 C.2.1 (dk_at dkX6_feed 11 rfl) (by decide) (fun c5 => ?_) (fun c5 => ?_)
    · have hf := (if_neg c5).symm.trans hf
      refine lv_aload_n C.1 C.2.1 (dk_at dkX6_feed 14 rfl) rfl (lv_at hl 0 rfl) ?_
      refine r_get (v := .ref (a_m 5)) C hK w.1 (fun w h => List.mem_cons_of_mem _ (inlX6 w h)) 0 rfl rfl 8 (by decide) (List.mem_cons_of_mem _ (inr4 _ (List.mem_of_getElem? (i := 8) rfl))) rfl (dk_at dkX6_feed 15 rfl) ?_
      refine lv_aload_n C.1 C.2.1 (dk_at dkX6_feed 16 rfl) rfl (lv_at hl 0 rfl) ?_
      refine r_get (v := .int taped) C hK w.1 (fun w h => List.mem_cons_of_mem _ (inlX6 w h)) 0 rfl rfl 9 (by decide) (List.mem_cons_of_mem _ (inr5 _ (List.mem_of_getElem? (i := 20) rfl))) rfl (dk_at dkX6_feed 17 rfl) ?_
      refine lv_iload_n C.1 C.2.1 (dk_at dkX6_feed 18 rfl) rfl (lv_at hl 1 rfl) ?_
      obtain ⟨h6, hf⟩ := gd_at hf
      refine r_iast (k := taped.toNatClampNeg) (f := tape) C hK w 5 rfl h6 rfl (dk_at dkX6_feed 19 rfl) (fun H locs w => ?_)
      obtain ⟨tape_7, etape_7⟩ : ∃ z : AI, z = upd tape taped.toNatClampNeg p1 := ⟨_, rfl⟩
      have hf := nm_at etape_7 hf
      have w : Wd g A Z.heap (wM g a_m st now isKept hearers draft dHearers dWalls toldWinds tape_7 taped pos frm sort value fault wrongAt landed landedIn stepped isThere isAt isNext landSum heardSum allWays ways drawn lanes sizes cells torn before) H locs := by rw [etape_7]; exact w
      refine lv_aload_n C.1 C.2.1 (dk_at dkX6_feed 20 rfl) rfl (lv_at hl 0 rfl) ?_
      refine lv_dup C.1 C.2.1 (dk_at dkX6_feed 21 rfl) rfl ?_
      refine r_get (v := .int taped) C hK w.1 (fun w h => List.mem_cons_of_mem _ (inlX6 w h)) 0 rfl rfl 9 (by decide) (List.mem_cons_of_mem _ (inr5 _ (List.mem_of_getElem? (i := 20) rfl))) rfl (dk_at dkX6_feed 22 rfl) ?_
      refine lv_iconst (v := 1) C.1 C.2.1 (dk_at dkX6_feed 23 rfl) (by decide) ?_
      refine lv_iadd C.1 C.2.1 (dk_at dkX6_feed 24 rfl) ?_
      refine lv_topi (fun x8 ex8 => ?_)
      have hf := nm_at ex8 hf
      refine r_put (v := .int x8) C hK w (fun w h => List.mem_cons_of_mem _ (inlX6 w h)) tyX6 tyX6_ok nmX6 0 rfl rfl 9 (by decide) (List.mem_cons_of_mem _ (inr5 _ (List.mem_of_getElem? (i := 20) rfl))) rfl rfl rfl (Nat.le_of_ble_eq_true rfl) (dk_at dkX6_feed 25 rfl) (fun H locs w => ?_)
      have w : Wd g A Z.heap (wM g a_m st now isKept hearers draft dHearers dWalls toldWinds tape_7 x8 pos frm sort value fault wrongAt landed landedIn stepped isThere isAt isNext landSum heardSum allWays ways drawn lanes sizes cells torn before) H locs := w
      refine lv_aload_n C.1 C.2.1 (dk_at dkX6_feed 26 rfl) rfl (lv_at hl 0 rfl) ?_
      refine r_get (v := .int x8) C hK w.1 (fun w h => List.mem_cons_of_mem _ (inlX6 w h)) 0 rfl rfl 9 (by decide) (List.mem_cons_of_mem _ (inr5 _ (List.mem_of_getElem? (i := 20) rfl))) rfl (dk_at dkX6_feed 27 rfl) ?_
      cases hf
      exact fin _ _ _ _ _ (dk_at dkX6_feed 28 rfl) rfl w
    · have hf := (if_pos c5).symm.trans hf
      refine lv_bipush (v := (-3)) C.1 C.2.1 (dk_at dkX6_feed 12 rfl) (by decide) ?_
      cases hf
      exact fin _ _ _ _ _ (dk_at dkX6_feed 13 rfl) rfl w
  · have hf := (if_pos c4).symm.trans hf
    refine lv_iconst (v := (-1)) C.1 C.2.1 (dk_at dkX6_feed 6 rfl) (by decide) ?_
    cases hf
    exact fin _ _ _ _ _ (dk_at dkX6_feed 7 rfl) rfl w
-- X6.end
abbrev tbX6_end : List (Nat × Instr × Nat) := [(0, .iload_n 1, 1), (1, .i2l, 1), (2, .lconst 0, 1), (3, .aload_n 0, 1), (4, .getfield 87, 3), (7, .i2l, 1), (8, .invokestatic 83, 3), (11, .ifCond .ne 5, 3), (14, .iconst (-1), 1), (15, .ireturn, 1), (16, .aload_n 0, 1), (17, .getfield 87, 3), (20, .istore_n 2, 1), (21, .aload_n 0, 1), (22, .iload_n 1, 1), (23, .putfield 87, 3), (26, .iload_n 2, 1), (27, .ireturn, 1)]
theorem dkX6_end : dk cX6_end tbX6_end := dk_of (by decide +kernel)
abbrev cdX6_end : Cond := Cond.code yX6_end cX6_end 3 (some .int)
abbrev rmX6_end : Room := { frames := 1, cells := 0, slots := 0, locals := 25 }
theorem mwX6_end : Cond.instanceMethod yX6_end ∈ wsL_law ∧ Cond.selects RX6 yX6_end yX6_end ∈ wsL_law ∧ Cond.initialized RX6 ∈ wsL_law ∧ cdX6_end ∈ wsL_law := ⟨inr6 _ (List.mem_of_getElem? (i := 5) rfl), inr6 _ (List.mem_of_getElem? (i := 6) rfl), inr1 _ (List.mem_of_getElem? (i := 5) rfl), inr6 _ (List.mem_of_getElem? (i := 7) rfl)⟩
theorem hdX6_end : yX6_end.cls = RX6 ∧ yX6_end.cls ≠ "java/lang/invoke/MethodHandle" ∧ yX6_end.cls ≠ "java/lang/invoke/VarHandle" ∧ (parseMethodDescriptor yX6_end.desc).map (fun d => d.parameters.length) = some 1 := by decide +kernel
set_option maxHeartbeats 4000000 in
set_option maxRecDepth 100000 in
theorem kX6_end (l : Launch) (g : Gx) (sz : Nat) (a_m : Nat → Nat) (st : AI) (now : AI) (isKept : AI) (hearers : Int32) (draft : AI) (dHearers : Int32) (dWalls : Int32) (toldWinds : Int32) (tape : AI) (taped : Int32) (pos : Int32) (frm : Int32) (sort : Int32) (value : Int32) (fault : Int32) (wrongAt : Int32) (landed : AI) (landedIn : AI) (stepped : AI) (isThere : AI) (isAt : AI) (isNext : AI) (landSum : Int64) (heardSum : Int64) (allWays : Int64) (ways : AI) (drawn : AI) (lanes : AI) (sizes : AI) (cells : AI) (torn : Int32) (before : AI) (p1 : Int32) (res : Int32) (taped_o : Int32) (hf : fX6_end p1 taped = some (res, taped_o)) : Met l yX6_end (cdX6_end :: wsL_law) rmX6_end (va_Pc [.ref (a_m 0), .int p1] (RWp g sz (wM g a_m st now isKept hearers draft dHearers dWalls toldWinds tape taped pos frm sort value fault wrongAt landed landedIn stepped isThere isAt isNext landSum heardSum allWays ways drawn lanes sizes cells torn before))) (va_Qi (fun x (_ : Unit) => x = res) (fun _ => RWq g (va_A (wM g a_m st now isKept hearers draft dHearers dWalls toldWinds tape taped pos frm sort value fault wrongAt landed landedIn stepped isThere isAt isNext landSum heardSum allWays ways drawn lanes sizes cells torn before) sz) (wM g a_m st now isKept hearers draft dHearers dWalls toldWinds tape taped_o pos frm sort value fault wrongAt landed landedIn stepped isThere isAt isNext landSum heardSum allWays ways drawn lanes sizes cells torn before)) (va_A (wM g a_m st now isKept hearers draft dHearers dWalls toldWinds tape taped pos frm sort value fault wrongAt landed landedIn stepped isThere isAt isNext landSum heardSum allWays ways drawn lanes sizes cells torn before) sz)) 0 0 (va_A (wM g a_m st now isKept hearers draft dHearers dWalls toldWinds tape taped pos frm sort value fault wrongAt landed landedIn stepped isThere isAt isNext landSum heardSum allWays ways drawn lanes sizes cells torn before) sz) := by
  refine Met_rwi (cc := cX6_end) (maxL := 3) (by decide) rfl (Nat.le_of_ble_eq_true rfl) ?_
  intro P E Z Mi AR BE ME CO A Q C hK hA fin w ls hl
  have hl : lv_has ls 3 [(0, .ref (a_m 0)), (1, .int p1)] := hl
  unfold fX6_end at hf
  refine lv_iload_n C.1 C.2.1 (dk_at dkX6_end 0 rfl) rfl (lv_at hl 1 rfl) ?_
  refine lv_i2l C.1 C.2.1 (dk_at dkX6_end 1 rfl) rfl ?_
  refine lv_topl (fun x1 ex1 => ?_)
  have hf := nm_at ex1 hf
  refine lv_lconst (v := 0) C.1 C.2.1 (dk_at dkX6_end 2 rfl) (by decide) ?_
  refine lv_aload_n C.1 C.2.1 (dk_at dkX6_end 3 rfl) rfl (lv_at hl 0 rfl) ?_
  refine r_get (v := .int taped) C hK w.1 (fun w h => List.mem_cons_of_mem _ (inlX6 w h)) 0 rfl rfl 9 (by decide) (List.mem_cons_of_mem _ (inr5 _ (List.mem_of_getElem? (i := 20) rfl))) rfl (dk_at dkX6_end 4 rfl) ?_
  refine lv_i2l C.1 C.2.1 (dk_at dkX6_end 5 rfl) rfl ?_
  refine lv_topl (fun x2 ex2 => ?_)
  have hf := nm_at ex2 hf
  obtain ⟨r3, hq4, hf⟩ := bd1_at hf
  refine r_st (As := [.long x1, .long 0, .long x2]) (rest := []) C (kX6_in l x1 0 x2 r3 hq4) (cwS0 C (inr5 _ (List.mem_of_getElem? (i := 21) rfl)) mwX6_in hdX6_in ⟨Nat.le_of_ble_eq_true rfl, Nat.le_of_ble_eq_true rfl⟩) rfl hl.1 rfl (Nat.le_of_ble_eq_true rfl) ⟨Nat.zero_le _, Nat.zero_le _⟩ (dk_at dkX6_end 6 rfl) ?_
  refine lv_if_ne (tgt := 16) C.1 C.2.1 (dk_at dkX6_end 7 rfl) (by decide) (fun c5 => ?_) (fun c5 => ?_)
  · have hf := (if_neg c5).symm.trans hf
    refine lv_aload_n C.1 C.2.1 (dk_at dkX6_end 10 rfl) rfl (lv_at hl 0 rfl) ?_
    refine r_get (v := .int taped) C hK w.1 (fun w h => List.mem_cons_of_mem _ (inlX6 w h)) 0 rfl rfl 9 (by decide) (List.mem_cons_of_mem _ (inr5 _ (List.mem_of_getElem? (i := 20) rfl))) rfl (dk_at dkX6_end 11 rfl) ?_
    refine lv_istore_n (lv' := [(2, .int taped), (0, .ref (a_m 0)), (1, .int p1)]) C.1 C.2.1 (dk_at dkX6_end 12 rfl) rfl hl (by decide) rfl (fun ls hl => ?_)
    refine lv_aload_n C.1 C.2.1 (dk_at dkX6_end 13 rfl) rfl (lv_at hl 1 rfl) ?_
    refine lv_iload_n C.1 C.2.1 (dk_at dkX6_end 14 rfl) rfl (lv_at hl 2 rfl) ?_
    refine r_put (v := .int p1) C hK w (fun w h => List.mem_cons_of_mem _ (inlX6 w h)) tyX6 tyX6_ok nmX6 0 rfl rfl 9 (by decide) (List.mem_cons_of_mem _ (inr5 _ (List.mem_of_getElem? (i := 20) rfl))) rfl rfl rfl (Nat.le_of_ble_eq_true rfl) (dk_at dkX6_end 15 rfl) (fun H locs w => ?_)
    have w : Wd g A Z.heap (wM g a_m st now isKept hearers draft dHearers dWalls toldWinds tape p1 pos frm sort value fault wrongAt landed landedIn stepped isThere isAt isNext landSum heardSum allWays ways drawn lanes sizes cells torn before) H locs := w
    refine lv_iload_n C.1 C.2.1 (dk_at dkX6_end 16 rfl) rfl (lv_at hl 0 rfl) ?_
    cases hf
    exact fin _ _ _ _ _ (dk_at dkX6_end 17 rfl) rfl w
  · have hf := (if_pos c5).symm.trans hf
    refine lv_iconst (v := (-1)) C.1 C.2.1 (dk_at dkX6_end 8 rfl) (by decide) ?_
    cases hf
    exact fin _ _ _ _ _ (dk_at dkX6_end 9 rfl) rfl w
-- X6.needs
abbrev tbX6_needs : List (Nat × Instr × Nat) := [(0, .iload_n 1, 1), (1, .ifCond .ne 23, 3), (4, .aload_n 0, 1), (5, .getfield 90, 3), (8, .ifCond .ne 16, 3), (11, .aload_n 0, 1), (12, .iload_n 2, 1), (13, .putfield 90, 3), (16, .aload_n 0, 1), (17, .aload_n 0, 1), (18, .getfield 93, 3), (21, .putfield 96, 3), (24, .return_, 1)]
theorem dkX6_needs : dk cX6_needs tbX6_needs := dk_of (by decide +kernel)
abbrev cdX6_needs : Cond := Cond.code yX6_needs cX6_needs 3 none
abbrev rmX6_needs : Room := { frames := 0, cells := 0, slots := 0, locals := 0 }
theorem mwX6_needs : Cond.instanceMethod yX6_needs ∈ wsL_law ∧ Cond.selects RX6 yX6_needs yX6_needs ∈ wsL_law ∧ Cond.initialized RX6 ∈ wsL_law ∧ cdX6_needs ∈ wsL_law := ⟨inr13 _ (List.mem_of_getElem? (i := 13) rfl), inr13 _ (List.mem_of_getElem? (i := 14) rfl), inr1 _ (List.mem_of_getElem? (i := 5) rfl), inr13 _ (List.mem_of_getElem? (i := 15) rfl)⟩
theorem hdX6_needs : yX6_needs.cls = RX6 ∧ yX6_needs.cls ≠ "java/lang/invoke/MethodHandle" ∧ yX6_needs.cls ≠ "java/lang/invoke/VarHandle" ∧ (parseMethodDescriptor yX6_needs.desc).map (fun d => d.parameters.length) = some 2 := by decide +kernel
set_option maxHeartbeats 4000000 in
set_option maxRecDepth 100000 in
theorem kX6_needs (l : Launch) (g : Gx) (sz : Nat) (a_m : Nat → Nat) (st : AI) (now : AI) (isKept : AI) (hearers : Int32) (draft : AI) (dHearers : Int32) (dWalls : Int32) (toldWinds : Int32) (tape : AI) (taped : Int32) (pos : Int32) (frm : Int32) (sort : Int32) (value : Int32) (fault : Int32) (wrongAt : Int32) (landed : AI) (landedIn : AI) (stepped : AI) (isThere : AI) (isAt : AI) (isNext : AI) (landSum : Int64) (heardSum : Int64) (allWays : Int64) (ways : AI) (drawn : AI) (lanes : AI) (sizes : AI) (cells : AI) (torn : Int32) (before : AI) (p1 : Int32) (p2 : Int32) (fault_o : Int32) (wrongAt_o : Int32) (hf : fX6_needs p1 p2 frm fault wrongAt = some (fault_o, wrongAt_o)) : Met l yX6_needs (cdX6_needs :: wsL_law) rmX6_needs (va_Pc [.ref (a_m 0), .int p1, .int p2] (RWp g sz (wM g a_m st now isKept hearers draft dHearers dWalls toldWinds tape taped pos frm sort value fault wrongAt landed landedIn stepped isThere isAt isNext landSum heardSum allWays ways drawn lanes sizes cells torn before))) (va_Qv (fun _ : Unit => True) (fun _ => RWq g (va_A (wM g a_m st now isKept hearers draft dHearers dWalls toldWinds tape taped pos frm sort value fault wrongAt landed landedIn stepped isThere isAt isNext landSum heardSum allWays ways drawn lanes sizes cells torn before) sz) (wM g a_m st now isKept hearers draft dHearers dWalls toldWinds tape taped pos frm sort value fault_o wrongAt_o landed landedIn stepped isThere isAt isNext landSum heardSum allWays ways drawn lanes sizes cells torn before)) (va_A (wM g a_m st now isKept hearers draft dHearers dWalls toldWinds tape taped pos frm sort value fault wrongAt landed landedIn stepped isThere isAt isNext landSum heardSum allWays ways drawn lanes sizes cells torn before) sz)) 0 0 (va_A (wM g a_m st now isKept hearers draft dHearers dWalls toldWinds tape taped pos frm sort value fault wrongAt landed landedIn stepped isThere isAt isNext landSum heardSum allWays ways drawn lanes sizes cells torn before) sz) := by
  refine Met_rwv (cc := cX6_needs) (maxL := 3) (by decide) rfl (Nat.le_of_ble_eq_true rfl) ?_
  intro P E Z Mi AR BE ME CO A Q C hK hA fin w ls hl
  have hl : lv_has ls 3 [(0, .ref (a_m 0)), (1, .int p1), (2, .int p2)] := hl
  unfold fX6_needs at hf
  refine lv_iload_n C.1 C.2.1 (dk_at dkX6_needs 0 rfl) rfl (lv_at hl 1 rfl) ?_
  refine lv_if_ne (tgt := 24) C.1 C.2.1 (dk_at dkX6_needs 1 rfl) (by decide) (fun c1 => ?_) (fun c1 => ?_)
  · have hf := (if_neg c1).symm.trans hf
    cases hf
    exact fin _ _ _ _ (dk_at dkX6_needs 12 rfl) w
  · have hf := (if_pos c1).symm.trans hf
    refine lv_aload_n C.1 C.2.1 (dk_at dkX6_needs 2 rfl) rfl (lv_at hl 0 rfl) ?_
    refine r_get (v := .int fault) C hK w.1 (fun w h => List.mem_cons_of_mem _ (inlX6 w h)) 0 rfl rfl 14 (by decide) (List.mem_cons_of_mem _ (inr12 _ (List.mem_of_getElem? (i := 18) rfl))) rfl (dk_at dkX6_needs 3 rfl) ?_
    refine lv_if_ne (tgt := 24) C.1 C.2.1 (dk_at dkX6_needs 4 rfl) (by decide) (fun c2 => ?_) (fun c2 => ?_)
    · have hf := (if_neg c2).symm.trans hf
      cases hf
      exact fin _ _ _ _ (dk_at dkX6_needs 12 rfl) w
    · have hf := (if_pos c2).symm.trans hf
      refine lv_aload_n C.1 C.2.1 (dk_at dkX6_needs 5 rfl) rfl (lv_at hl 0 rfl) ?_
      refine lv_iload_n C.1 C.2.1 (dk_at dkX6_needs 6 rfl) rfl (lv_at hl 2 rfl) ?_
      refine r_put (v := .int p2) C hK w (fun w h => List.mem_cons_of_mem _ (inlX6 w h)) tyX6 tyX6_ok nmX6 0 rfl rfl 14 (by decide) (List.mem_cons_of_mem _ (inr12 _ (List.mem_of_getElem? (i := 18) rfl))) rfl rfl rfl (Nat.le_of_ble_eq_true rfl) (dk_at dkX6_needs 7 rfl) (fun H locs w => ?_)
      have w : Wd g A Z.heap (wM g a_m st now isKept hearers draft dHearers dWalls toldWinds tape taped pos frm sort value p2 wrongAt landed landedIn stepped isThere isAt isNext landSum heardSum allWays ways drawn lanes sizes cells torn before) H locs := w
      refine lv_aload_n C.1 C.2.1 (dk_at dkX6_needs 8 rfl) rfl (lv_at hl 0 rfl) ?_
      refine lv_aload_n C.1 C.2.1 (dk_at dkX6_needs 9 rfl) rfl (lv_at hl 0 rfl) ?_
      refine r_get (v := .int frm) C hK w.1 (fun w h => List.mem_cons_of_mem _ (inlX6 w h)) 0 rfl rfl 11 (by decide) (List.mem_cons_of_mem _ (inr13 _ (List.mem_of_getElem? (i := 2) rfl))) rfl (dk_at dkX6_needs 10 rfl) ?_
      refine r_put (v := .int frm) C hK w (fun w h => List.mem_cons_of_mem _ (inlX6 w h)) tyX6 tyX6_ok nmX6 0 rfl rfl 15 (by decide) (List.mem_cons_of_mem _ (inr12 _ (List.mem_of_getElem? (i := 21) rfl))) rfl rfl rfl (Nat.le_of_ble_eq_true rfl) (dk_at dkX6_needs 11 rfl) (fun H locs w => ?_)
      have w : Wd g A Z.heap (wM g a_m st now isKept hearers draft dHearers dWalls toldWinds tape taped pos frm sort value p2 frm landed landedIn stepped isThere isAt isNext landSum heardSum allWays ways drawn lanes sizes cells torn before) H locs := w
      cases hf
      exact fin _ _ _ _ (dk_at dkX6_needs 12 rfl) w
-- X6.byteAt
abbrev tbX6_byteAt : List (Nat × Instr × Nat) := [(0, .iload_n 1, 1), (1, .aload_n 0, 1), (2, .getfield 87, 3), (5, .if_icmp .ge 12, 3), (8, .aload_n 0, 1), (9, .getfield 23, 3), (12, .iload_n 1, 1), (13, .iaload, 1), (14, .goto 4, 3), (17, .iconst (-1), 1), (18, .ireturn, 1)]
theorem dkX6_byteAt : dk cX6_byteAt tbX6_byteAt := dk_of (by decide +kernel)
abbrev cdX6_byteAt : Cond := Cond.code yX6_byteAt cX6_byteAt 2 (some .int)
abbrev rmX6_byteAt : Room := { frames := 0, cells := 0, slots := 0, locals := 0 }
theorem mwX6_byteAt : Cond.instanceMethod yX6_byteAt ∈ wsL_law ∧ Cond.selects RX6 yX6_byteAt yX6_byteAt ∈ wsL_law ∧ Cond.initialized RX6 ∈ wsL_law ∧ cdX6_byteAt ∈ wsL_law := ⟨inr13 _ (List.mem_of_getElem? (i := 9) rfl), inr13 _ (List.mem_of_getElem? (i := 10) rfl), inr1 _ (List.mem_of_getElem? (i := 5) rfl), inr13 _ (List.mem_of_getElem? (i := 11) rfl)⟩
theorem hdX6_byteAt : yX6_byteAt.cls = RX6 ∧ yX6_byteAt.cls ≠ "java/lang/invoke/MethodHandle" ∧ yX6_byteAt.cls ≠ "java/lang/invoke/VarHandle" ∧ (parseMethodDescriptor yX6_byteAt.desc).map (fun d => d.parameters.length) = some 1 := by decide +kernel
set_option maxHeartbeats 4000000 in
set_option maxRecDepth 100000 in
theorem kX6_byteAt (l : Launch) (g : Gx) (a_m : Nat → Nat) (st : AI) (now : AI) (isKept : AI) (hearers : Int32) (draft : AI) (dHearers : Int32) (dWalls : Int32) (toldWinds : Int32) (tape : AI) (taped : Int32) (pos : Int32) (frm : Int32) (sort : Int32) (value : Int32) (fault : Int32) (wrongAt : Int32) (landed : AI) (landedIn : AI) (stepped : AI) (isThere : AI) (isAt : AI) (isNext : AI) (landSum : Int64) (heardSum : Int64) (allWays : Int64) (ways : AI) (drawn : AI) (lanes : AI) (sizes : AI) (cells : AI) (torn : Int32) (before : AI) (p1 : Int32) (res : Int32) (hf : fX6_byteAt p1 tape taped = some res) : Met l yX6_byteAt (cdX6_byteAt :: wsL_law) rmX6_byteAt (va_Pc [.ref (a_m 0), .int p1] (RO g (wM g a_m st now isKept hearers draft dHearers dWalls toldWinds tape taped pos frm sort value fault wrongAt landed landedIn stepped isThere isAt isNext landSum heardSum allWays ways drawn lanes sizes cells torn before))) (vp_Si (fun x => x = res)) 0 0 (fun _ => False) := by
  refine Met_roi (cc := cX6_byteAt) (maxL := 2) (by decide) rfl (Nat.le_of_ble_eq_true rfl) ?_
  intro P E Z Mi AR BE ME CO Q C fin hK hP ls hl
  have hl : lv_has ls 2 [(0, .ref (a_m 0)), (1, .int p1)] := hl
  unfold fX6_byteAt at hf
  refine lv_iload_n C.1 C.2.1 (dk_at dkX6_byteAt 0 rfl) rfl (lv_at hl 1 rfl) ?_
  refine lv_aload_n C.1 C.2.1 (dk_at dkX6_byteAt 1 rfl) rfl (lv_at hl 0 rfl) ?_
  refine r_get (v := .int taped) C hK hP (fun w h => List.mem_cons_of_mem _ (inlX6 w h)) 0 rfl rfl 9 (by decide) (List.mem_cons_of_mem _ (inr5 _ (List.mem_of_getElem? (i := 20) rfl))) rfl (dk_at dkX6_byteAt 2 rfl) ?_
  refine lv_icmp_ge (tgt := 17) C.1 C.2.1 (dk_at dkX6_byteAt 3 rfl) (by decide) (fun c1 => ?_) (fun c1 => ?_)
  · have hf := (if_pos c1).symm.trans hf
    refine lv_iconst (v := (-1)) C.1 C.2.1 (dk_at dkX6_byteAt 9 rfl) (by decide) ?_
    cases hf
    exact fin _ _ _ (dk_at dkX6_byteAt 10 rfl) rfl
  · have hf := (if_neg c1).symm.trans hf
    refine lv_aload_n C.1 C.2.1 (dk_at dkX6_byteAt 4 rfl) rfl (lv_at hl 0 rfl) ?_
    refine r_get (v := .ref (a_m 5)) C hK hP (fun w h => List.mem_cons_of_mem _ (inlX6 w h)) 0 rfl rfl 8 (by decide) (List.mem_cons_of_mem _ (inr4 _ (List.mem_of_getElem? (i := 8) rfl))) rfl (dk_at dkX6_byteAt 5 rfl) ?_
    refine lv_iload_n C.1 C.2.1 (dk_at dkX6_byteAt 6 rfl) rfl (lv_at hl 1 rfl) ?_
    obtain ⟨h2, hf⟩ := gd_at hf
    refine r_iald (k := p1.toNatClampNeg) (f := tape) C hK hP 5 rfl h2 rfl (dk_at dkX6_byteAt 7 rfl) ?_
    refine lv_topi (fun x3 ex3 => ?_)
    have hf := nm_at ex3 hf
    refine lv_goto (tgt := 18) C.1 C.2.1 (dk_at dkX6_byteAt 8 rfl) (by decide) ?_
    cases hf
    exact fin _ _ _ (dk_at dkX6_byteAt 10 rfl) rfl
-- X6.is
abbrev tbX6_is : List (Nat × Instr × Nat) := [(0, .aload_n 0, 1), (1, .getfield 99, 3), (4, .aload_n 0, 1), (5, .getfield 93, 3), (8, .isub, 1), (9, .iload_n 1, 1), (10, .if_icmp .ne 48, 3), (13, .aload_n 0, 1), (14, .aload_n 0, 1), (15, .getfield 93, 3), (18, .invokevirtual 102, 3), (21, .iload_n 2, 1), (22, .if_icmp .ne 36, 3), (25, .aload_n 0, 1), (26, .aload_n 0, 1), (27, .getfield 93, 3), (30, .iconst 1, 1), (31, .iadd, 1), (32, .invokevirtual 102, 3), (35, .iload_n 3, 1), (36, .if_icmp .ne 22, 3), (39, .aload_n 0, 1), (40, .aload_n 0, 1), (41, .getfield 93, 3), (44, .iconst 2, 1), (45, .iadd, 1), (46, .invokevirtual 102, 3), (49, .iload 4, 2), (51, .if_icmp .ne 7, 3), (54, .iconst 1, 1), (55, .goto 4, 3), (58, .iconst 0, 1), (59, .ireturn, 1)]
theorem dkX6_is : dk cX6_is tbX6_is := dk_of (by decide +kernel)
abbrev cdX6_is : Cond := Cond.code yX6_is cX6_is 5 (some .boolean)
abbrev rmX6_is : Room := { frames := 1, cells := 0, slots := 0, locals := 21 }
theorem mwX6_is : Cond.instanceMethod yX6_is ∈ wsL_law ∧ Cond.selects RX6 yX6_is yX6_is ∈ wsL_law ∧ Cond.initialized RX6 ∈ wsL_law ∧ cdX6_is ∈ wsL_law := ⟨inr14 _ (List.mem_of_getElem? (i := 1) rfl), inr14 _ (List.mem_of_getElem? (i := 2) rfl), inr1 _ (List.mem_of_getElem? (i := 5) rfl), inr14 _ (List.mem_of_getElem? (i := 3) rfl)⟩
theorem hdX6_is : yX6_is.cls = RX6 ∧ yX6_is.cls ≠ "java/lang/invoke/MethodHandle" ∧ yX6_is.cls ≠ "java/lang/invoke/VarHandle" ∧ (parseMethodDescriptor yX6_is.desc).map (fun d => d.parameters.length) = some 4 := by decide +kernel
set_option maxHeartbeats 4000000 in
set_option maxRecDepth 100000 in
theorem kX6_is (l : Launch) (g : Gx) (a_m : Nat → Nat) (st : AI) (now : AI) (isKept : AI) (hearers : Int32) (draft : AI) (dHearers : Int32) (dWalls : Int32) (toldWinds : Int32) (tape : AI) (taped : Int32) (pos : Int32) (frm : Int32) (sort : Int32) (value : Int32) (fault : Int32) (wrongAt : Int32) (landed : AI) (landedIn : AI) (stepped : AI) (isThere : AI) (isAt : AI) (isNext : AI) (landSum : Int64) (heardSum : Int64) (allWays : Int64) (ways : AI) (drawn : AI) (lanes : AI) (sizes : AI) (cells : AI) (torn : Int32) (before : AI) (p1 : Int32) (p2 : Int32) (p3 : Int32) (p4 : Int32) (res : Int32) (hf : fX6_is p1 p2 p3 p4 tape taped pos frm = some res) : Met l yX6_is (cdX6_is :: wsL_law) rmX6_is (va_Pc [.ref (a_m 0), .int p1, .int p2, .int p3, .int p4] (RO g (wM g a_m st now isKept hearers draft dHearers dWalls toldWinds tape taped pos frm sort value fault wrongAt landed landedIn stepped isThere isAt isNext landSum heardSum allWays ways drawn lanes sizes cells torn before))) (vp_Si (fun x => x = res)) 0 0 (fun _ => False) := by
  refine Met_roz (cc := cX6_is) (maxL := 5) (by decide) rfl (Nat.le_of_ble_eq_true rfl) ?_
  intro P E Z Mi AR BE ME CO Q C fin hK hP ls hl
  have hl : lv_has ls 5 [(0, .ref (a_m 0)), (1, .int p1), (2, .int p2), (3, .int p3), (4, .int p4)] := hl
  unfold fX6_is at hf
  refine lv_aload_n C.1 C.2.1 (dk_at dkX6_is 0 rfl) rfl (lv_at hl 0 rfl) ?_
  refine r_get (v := .int pos) C hK hP (fun w h => List.mem_cons_of_mem _ (inlX6 w h)) 0 rfl rfl 10 (by decide) (List.mem_cons_of_mem _ (inr12 _ (List.mem_of_getElem? (i := 19) rfl))) rfl (dk_at dkX6_is 1 rfl) ?_
  refine lv_aload_n C.1 C.2.1 (dk_at dkX6_is 2 rfl) rfl (lv_at hl 0 rfl) ?_
  refine r_get (v := .int frm) C hK hP (fun w h => List.mem_cons_of_mem _ (inlX6 w h)) 0 rfl rfl 11 (by decide) (List.mem_cons_of_mem _ (inr13 _ (List.mem_of_getElem? (i := 2) rfl))) rfl (dk_at dkX6_is 3 rfl) ?_
  refine lv_isub C.1 C.2.1 (dk_at dkX6_is 4 rfl) ?_
  refine lv_topi (fun x1 ex1 => ?_)
  have hf := nm_at ex1 hf
  refine lv_iload_n C.1 C.2.1 (dk_at dkX6_is 5 rfl) rfl (lv_at hl 1 rfl) ?_
  refine lv_icmp_ne (tgt := 58) C.1 C.2.1 (dk_at dkX6_is 6 rfl) (by decide) (fun c2 => ?_) (fun c2 => ?_)
  · have hf := (if_neg c2).symm.trans hf
    refine lv_iconst (v := 0) C.1 C.2.1 (dk_at dkX6_is 31 rfl) (by decide) ?_
    cases hf
    exact fin _ _ _ (dk_at dkX6_is 32 rfl) rfl rfl
  · have hf := (if_pos c2).symm.trans hf
    refine lv_aload_n C.1 C.2.1 (dk_at dkX6_is 7 rfl) rfl (lv_at hl 0 rfl) ?_
    refine lv_aload_n C.1 C.2.1 (dk_at dkX6_is 8 rfl) rfl (lv_at hl 0 rfl) ?_
    refine r_get (v := .int frm) C hK hP (fun w h => List.mem_cons_of_mem _ (inlX6 w h)) 0 rfl rfl 11 (by decide) (List.mem_cons_of_mem _ (inr13 _ (List.mem_of_getElem? (i := 2) rfl))) rfl (dk_at dkX6_is 9 rfl) ?_
    obtain ⟨r3, hq4, hf⟩ := bd1_at hf
    refine r_roV (As := [.int frm]) (rest := []) C (kX6_byteAt l g a_m st now isKept hearers draft dHearers dWalls toldWinds tape taped pos frm sort value fault wrongAt landed landedIn stepped isThere isAt isNext landSum heardSum allWays ways drawn lanes sizes cells torn before frm r3 hq4) (cwV0 C (inr13 _ (List.mem_of_getElem? (i := 8) rfl)) mwX6_byteAt hdX6_byteAt ⟨Nat.le_of_ble_eq_true rfl, Nat.le_of_ble_eq_true rfl⟩) hK hP rfl rfl rfl hl.1 rfl (Nat.le_of_ble_eq_true rfl) ⟨Nat.zero_le _, Nat.zero_le _⟩ (dk_at dkX6_is 10 rfl) ?_
    refine lv_iload_n C.1 C.2.1 (dk_at dkX6_is 11 rfl) rfl (lv_at hl 2 rfl) ?_
    refine lv_icmp_ne (tgt := 58) C.1 C.2.1 (dk_at dkX6_is 12 rfl) (by decide) (fun c5 => ?_) (fun c5 => ?_)
    · have hf := (if_neg c5).symm.trans hf
      refine lv_iconst (v := 0) C.1 C.2.1 (dk_at dkX6_is 31 rfl) (by decide) ?_
      cases hf
      exact fin _ _ _ (dk_at dkX6_is 32 rfl) rfl rfl
    · have hf := (if_pos c5).symm.trans hf
      refine lv_aload_n C.1 C.2.1 (dk_at dkX6_is 13 rfl) rfl (lv_at hl 0 rfl) ?_
      refine lv_aload_n C.1 C.2.1 (dk_at dkX6_is 14 rfl) rfl (lv_at hl 0 rfl) ?_
      refine r_get (v := .int frm) C hK hP (fun w h => List.mem_cons_of_mem _ (inlX6 w h)) 0 rfl rfl 11 (by decide) (List.mem_cons_of_mem _ (inr13 _ (List.mem_of_getElem? (i := 2) rfl))) rfl (dk_at dkX6_is 15 rfl) ?_
      refine lv_iconst (v := 1) C.1 C.2.1 (dk_at dkX6_is 16 rfl) (by decide) ?_
      refine lv_iadd C.1 C.2.1 (dk_at dkX6_is 17 rfl) ?_
      refine lv_topi (fun x6 ex6 => ?_)
      have hf := nm_at ex6 hf
      obtain ⟨r7, hq8, hf⟩ := bd1_at hf
      refine r_roV (As := [.int x6]) (rest := []) C (kX6_byteAt l g a_m st now isKept hearers draft dHearers dWalls toldWinds tape taped pos frm sort value fault wrongAt landed landedIn stepped isThere isAt isNext landSum heardSum allWays ways drawn lanes sizes cells torn before x6 r7 hq8) (cwV0 C (inr13 _ (List.mem_of_getElem? (i := 8) rfl)) mwX6_byteAt hdX6_byteAt ⟨Nat.le_of_ble_eq_true rfl, Nat.le_of_ble_eq_true rfl⟩) hK hP rfl rfl rfl hl.1 rfl (Nat.le_of_ble_eq_true rfl) ⟨Nat.zero_le _, Nat.zero_le _⟩ (dk_at dkX6_is 18 rfl) ?_
      refine lv_iload_n C.1 C.2.1 (dk_at dkX6_is 19 rfl) rfl (lv_at hl 3 rfl) ?_
      refine lv_icmp_ne (tgt := 58) C.1 C.2.1 (dk_at dkX6_is 20 rfl) (by decide) (fun c9 => ?_) (fun c9 => ?_)
      · have hf := (if_neg c9).symm.trans hf
        refine lv_iconst (v := 0) C.1 C.2.1 (dk_at dkX6_is 31 rfl) (by decide) ?_
        cases hf
        exact fin _ _ _ (dk_at dkX6_is 32 rfl) rfl rfl
      · have hf := (if_pos c9).symm.trans hf
        refine lv_aload_n C.1 C.2.1 (dk_at dkX6_is 21 rfl) rfl (lv_at hl 0 rfl) ?_
        refine lv_aload_n C.1 C.2.1 (dk_at dkX6_is 22 rfl) rfl (lv_at hl 0 rfl) ?_
        refine r_get (v := .int frm) C hK hP (fun w h => List.mem_cons_of_mem _ (inlX6 w h)) 0 rfl rfl 11 (by decide) (List.mem_cons_of_mem _ (inr13 _ (List.mem_of_getElem? (i := 2) rfl))) rfl (dk_at dkX6_is 23 rfl) ?_
        refine lv_iconst (v := 2) C.1 C.2.1 (dk_at dkX6_is 24 rfl) (by decide) ?_
        refine lv_iadd C.1 C.2.1 (dk_at dkX6_is 25 rfl) ?_
        refine lv_topi (fun x10 ex10 => ?_)
        have hf := nm_at ex10 hf
        obtain ⟨r11, hq12, hf⟩ := bd1_at hf
        refine r_roV (As := [.int x10]) (rest := []) C (kX6_byteAt l g a_m st now isKept hearers draft dHearers dWalls toldWinds tape taped pos frm sort value fault wrongAt landed landedIn stepped isThere isAt isNext landSum heardSum allWays ways drawn lanes sizes cells torn before x10 r11 hq12) (cwV0 C (inr13 _ (List.mem_of_getElem? (i := 8) rfl)) mwX6_byteAt hdX6_byteAt ⟨Nat.le_of_ble_eq_true rfl, Nat.le_of_ble_eq_true rfl⟩) hK hP rfl rfl rfl hl.1 rfl (Nat.le_of_ble_eq_true rfl) ⟨Nat.zero_le _, Nat.zero_le _⟩ (dk_at dkX6_is 26 rfl) ?_
        refine lv_iload C.1 C.2.1 (dk_at dkX6_is 27 rfl) (lv_at hl 4 rfl) ?_
        refine lv_icmp_ne (tgt := 58) C.1 C.2.1 (dk_at dkX6_is 28 rfl) (by decide) (fun c13 => ?_) (fun c13 => ?_)
        · have hf := (if_neg c13).symm.trans hf
          refine lv_iconst (v := 0) C.1 C.2.1 (dk_at dkX6_is 31 rfl) (by decide) ?_
          cases hf
          exact fin _ _ _ (dk_at dkX6_is 32 rfl) rfl rfl
        · have hf := (if_pos c13).symm.trans hf
          refine lv_iconst (v := 1) C.1 C.2.1 (dk_at dkX6_is 29 rfl) (by decide) ?_
          refine lv_goto (tgt := 59) C.1 C.2.1 (dk_at dkX6_is 30 rfl) (by decide) ?_
          cases hf
          exact fin _ _ _ (dk_at dkX6_is 32 rfl) rfl rfl
-- X6.ends
abbrev tbX6_ends : List (Nat × Instr × Nat) := [(0, .aload_n 0, 1), (1, .aload_n 0, 1), (2, .getfield 93, 3), (5, .iconst 3, 1), (6, .iadd, 1), (7, .invokevirtual 102, 3), (10, .iload_n 1, 1), (11, .if_icmp .ne 43, 3), (14, .iload_n 2, 1), (15, .ifCond .eq 17, 3), (18, .aload_n 0, 1), (19, .aload_n 0, 1), (20, .getfield 93, 3), (23, .iconst 4, 1), (24, .iadd, 1), (25, .invokevirtual 102, 3), (28, .iload_n 2, 1), (29, .if_icmp .ne 25, 3), (32, .iload_n 3, 1), (33, .ifCond .eq 17, 3), (36, .aload_n 0, 1), (37, .aload_n 0, 1), (38, .getfield 93, 3), (41, .iconst 5, 1), (42, .iadd, 1), (43, .invokevirtual 102, 3), (46, .iload_n 3, 1), (47, .if_icmp .ne 7, 3), (50, .iconst 1, 1), (51, .goto 4, 3), (54, .iconst 0, 1), (55, .ireturn, 1)]
theorem dkX6_ends : dk cX6_ends tbX6_ends := dk_of (by decide +kernel)
abbrev cdX6_ends : Cond := Cond.code yX6_ends cX6_ends 4 (some .boolean)
abbrev rmX6_ends : Room := { frames := 1, cells := 0, slots := 0, locals := 21 }
theorem mwX6_ends : Cond.instanceMethod yX6_ends ∈ wsL_law ∧ Cond.selects RX6 yX6_ends yX6_ends ∈ wsL_law ∧ Cond.initialized RX6 ∈ wsL_law ∧ cdX6_ends ∈ wsL_law := ⟨inr14 _ (List.mem_of_getElem? (i := 5) rfl), inr14 _ (List.mem_of_getElem? (i := 6) rfl), inr1 _ (List.mem_of_getElem? (i := 5) rfl), inr14 _ (List.mem_of_getElem? (i := 7) rfl)⟩
theorem hdX6_ends : yX6_ends.cls = RX6 ∧ yX6_ends.cls ≠ "java/lang/invoke/MethodHandle" ∧ yX6_ends.cls ≠ "java/lang/invoke/VarHandle" ∧ (parseMethodDescriptor yX6_ends.desc).map (fun d => d.parameters.length) = some 3 := by decide +kernel
set_option maxHeartbeats 4000000 in
set_option maxRecDepth 100000 in
theorem kX6_ends (l : Launch) (g : Gx) (a_m : Nat → Nat) (st : AI) (now : AI) (isKept : AI) (hearers : Int32) (draft : AI) (dHearers : Int32) (dWalls : Int32) (toldWinds : Int32) (tape : AI) (taped : Int32) (pos : Int32) (frm : Int32) (sort : Int32) (value : Int32) (fault : Int32) (wrongAt : Int32) (landed : AI) (landedIn : AI) (stepped : AI) (isThere : AI) (isAt : AI) (isNext : AI) (landSum : Int64) (heardSum : Int64) (allWays : Int64) (ways : AI) (drawn : AI) (lanes : AI) (sizes : AI) (cells : AI) (torn : Int32) (before : AI) (p1 : Int32) (p2 : Int32) (p3 : Int32) (res : Int32) (hf : fX6_ends p1 p2 p3 tape taped frm = some res) : Met l yX6_ends (cdX6_ends :: wsL_law) rmX6_ends (va_Pc [.ref (a_m 0), .int p1, .int p2, .int p3] (RO g (wM g a_m st now isKept hearers draft dHearers dWalls toldWinds tape taped pos frm sort value fault wrongAt landed landedIn stepped isThere isAt isNext landSum heardSum allWays ways drawn lanes sizes cells torn before))) (vp_Si (fun x => x = res)) 0 0 (fun _ => False) := by
  refine Met_roz (cc := cX6_ends) (maxL := 4) (by decide) rfl (Nat.le_of_ble_eq_true rfl) ?_
  intro P E Z Mi AR BE ME CO Q C fin hK hP ls hl
  have hl : lv_has ls 4 [(0, .ref (a_m 0)), (1, .int p1), (2, .int p2), (3, .int p3)] := hl
  unfold fX6_ends at hf
  refine lv_aload_n C.1 C.2.1 (dk_at dkX6_ends 0 rfl) rfl (lv_at hl 0 rfl) ?_
  refine lv_aload_n C.1 C.2.1 (dk_at dkX6_ends 1 rfl) rfl (lv_at hl 0 rfl) ?_
  refine r_get (v := .int frm) C hK hP (fun w h => List.mem_cons_of_mem _ (inlX6 w h)) 0 rfl rfl 11 (by decide) (List.mem_cons_of_mem _ (inr13 _ (List.mem_of_getElem? (i := 2) rfl))) rfl (dk_at dkX6_ends 2 rfl) ?_
  refine lv_iconst (v := 3) C.1 C.2.1 (dk_at dkX6_ends 3 rfl) (by decide) ?_
  refine lv_iadd C.1 C.2.1 (dk_at dkX6_ends 4 rfl) ?_
  refine lv_topi (fun x1 ex1 => ?_)
  have hf := nm_at ex1 hf
  obtain ⟨r2, hq3, hf⟩ := bd1_at hf
  refine r_roV (As := [.int x1]) (rest := []) C (kX6_byteAt l g a_m st now isKept hearers draft dHearers dWalls toldWinds tape taped pos frm sort value fault wrongAt landed landedIn stepped isThere isAt isNext landSum heardSum allWays ways drawn lanes sizes cells torn before x1 r2 hq3) (cwV0 C (inr13 _ (List.mem_of_getElem? (i := 8) rfl)) mwX6_byteAt hdX6_byteAt ⟨Nat.le_of_ble_eq_true rfl, Nat.le_of_ble_eq_true rfl⟩) hK hP rfl rfl rfl hl.1 rfl (Nat.le_of_ble_eq_true rfl) ⟨Nat.zero_le _, Nat.zero_le _⟩ (dk_at dkX6_ends 5 rfl) ?_
  refine lv_iload_n C.1 C.2.1 (dk_at dkX6_ends 6 rfl) rfl (lv_at hl 1 rfl) ?_
  refine lv_icmp_ne (tgt := 54) C.1 C.2.1 (dk_at dkX6_ends 7 rfl) (by decide) (fun c4 => ?_) (fun c4 => ?_)
  · have hf := (if_neg c4).symm.trans hf
    refine lv_iconst (v := 0) C.1 C.2.1 (dk_at dkX6_ends 30 rfl) (by decide) ?_
    cases hf
    exact fin _ _ _ (dk_at dkX6_ends 31 rfl) rfl rfl
  · have hf := (if_pos c4).symm.trans hf
    refine lv_iload_n C.1 C.2.1 (dk_at dkX6_ends 8 rfl) rfl (lv_at hl 2 rfl) ?_
    refine lv_if_eq (tgt := 32) C.1 C.2.1 (dk_at dkX6_ends 9 rfl) (by decide) (fun c5 => ?_) (fun c5 => ?_)
    · have hf := (if_pos c5).symm.trans hf
      refine lv_iload_n C.1 C.2.1 (dk_at dkX6_ends 18 rfl) rfl (lv_at hl 3 rfl) ?_
      refine lv_if_eq (tgt := 50) C.1 C.2.1 (dk_at dkX6_ends 19 rfl) (by decide) (fun c6 => ?_) (fun c6 => ?_)
      · have hf := (if_pos c6).symm.trans hf
        refine lv_iconst (v := 1) C.1 C.2.1 (dk_at dkX6_ends 28 rfl) (by decide) ?_
        refine lv_goto (tgt := 55) C.1 C.2.1 (dk_at dkX6_ends 29 rfl) (by decide) ?_
        cases hf
        exact fin _ _ _ (dk_at dkX6_ends 31 rfl) rfl rfl
      · have hf := (if_neg c6).symm.trans hf
        refine lv_aload_n C.1 C.2.1 (dk_at dkX6_ends 20 rfl) rfl (lv_at hl 0 rfl) ?_
        refine lv_aload_n C.1 C.2.1 (dk_at dkX6_ends 21 rfl) rfl (lv_at hl 0 rfl) ?_
        refine r_get (v := .int frm) C hK hP (fun w h => List.mem_cons_of_mem _ (inlX6 w h)) 0 rfl rfl 11 (by decide) (List.mem_cons_of_mem _ (inr13 _ (List.mem_of_getElem? (i := 2) rfl))) rfl (dk_at dkX6_ends 22 rfl) ?_
        refine lv_iconst (v := 5) C.1 C.2.1 (dk_at dkX6_ends 23 rfl) (by decide) ?_
        refine lv_iadd C.1 C.2.1 (dk_at dkX6_ends 24 rfl) ?_
        refine lv_topi (fun x7 ex7 => ?_)
        have hf := nm_at ex7 hf
        obtain ⟨r8, hq9, hf⟩ := bd1_at hf
        refine r_roV (As := [.int x7]) (rest := []) C (kX6_byteAt l g a_m st now isKept hearers draft dHearers dWalls toldWinds tape taped pos frm sort value fault wrongAt landed landedIn stepped isThere isAt isNext landSum heardSum allWays ways drawn lanes sizes cells torn before x7 r8 hq9) (cwV0 C (inr13 _ (List.mem_of_getElem? (i := 8) rfl)) mwX6_byteAt hdX6_byteAt ⟨Nat.le_of_ble_eq_true rfl, Nat.le_of_ble_eq_true rfl⟩) hK hP rfl rfl rfl hl.1 rfl (Nat.le_of_ble_eq_true rfl) ⟨Nat.zero_le _, Nat.zero_le _⟩ (dk_at dkX6_ends 25 rfl) ?_
        refine lv_iload_n C.1 C.2.1 (dk_at dkX6_ends 26 rfl) rfl (lv_at hl 3 rfl) ?_
        refine lv_icmp_ne (tgt := 54) C.1 C.2.1 (dk_at dkX6_ends 27 rfl) (by decide) (fun c10 => ?_) (fun c10 => ?_)
        · have hf := (if_neg c10).symm.trans hf
          refine lv_iconst (v := 0) C.1 C.2.1 (dk_at dkX6_ends 30 rfl) (by decide) ?_
          cases hf
          exact fin _ _ _ (dk_at dkX6_ends 31 rfl) rfl rfl
        · have hf := (if_pos c10).symm.trans hf
          refine lv_iconst (v := 1) C.1 C.2.1 (dk_at dkX6_ends 28 rfl) (by decide) ?_
          refine lv_goto (tgt := 55) C.1 C.2.1 (dk_at dkX6_ends 29 rfl) (by decide) ?_
          cases hf
          exact fin _ _ _ (dk_at dkX6_ends 31 rfl) rfl rfl
    · have hf := (if_neg c5).symm.trans hf
      refine lv_aload_n C.1 C.2.1 (dk_at dkX6_ends 10 rfl) rfl (lv_at hl 0 rfl) ?_
      refine lv_aload_n C.1 C.2.1 (dk_at dkX6_ends 11 rfl) rfl (lv_at hl 0 rfl) ?_
      refine r_get (v := .int frm) C hK hP (fun w h => List.mem_cons_of_mem _ (inlX6 w h)) 0 rfl rfl 11 (by decide) (List.mem_cons_of_mem _ (inr13 _ (List.mem_of_getElem? (i := 2) rfl))) rfl (dk_at dkX6_ends 12 rfl) ?_
      refine lv_iconst (v := 4) C.1 C.2.1 (dk_at dkX6_ends 13 rfl) (by decide) ?_
      refine lv_iadd C.1 C.2.1 (dk_at dkX6_ends 14 rfl) ?_
      refine lv_topi (fun x11 ex11 => ?_)
      have hf := nm_at ex11 hf
      obtain ⟨r12, hq13, hf⟩ := bd1_at hf
      refine r_roV (As := [.int x11]) (rest := []) C (kX6_byteAt l g a_m st now isKept hearers draft dHearers dWalls toldWinds tape taped pos frm sort value fault wrongAt landed landedIn stepped isThere isAt isNext landSum heardSum allWays ways drawn lanes sizes cells torn before x11 r12 hq13) (cwV0 C (inr13 _ (List.mem_of_getElem? (i := 8) rfl)) mwX6_byteAt hdX6_byteAt ⟨Nat.le_of_ble_eq_true rfl, Nat.le_of_ble_eq_true rfl⟩) hK hP rfl rfl rfl hl.1 rfl (Nat.le_of_ble_eq_true rfl) ⟨Nat.zero_le _, Nat.zero_le _⟩ (dk_at dkX6_ends 15 rfl) ?_
      refine lv_iload_n C.1 C.2.1 (dk_at dkX6_ends 16 rfl) rfl (lv_at hl 2 rfl) ?_
      refine lv_icmp_ne (tgt := 54) C.1 C.2.1 (dk_at dkX6_ends 17 rfl) (by decide) (fun c14 => ?_) (fun c14 => ?_)
      · have hf := (if_neg c14).symm.trans hf
        refine lv_iconst (v := 0) C.1 C.2.1 (dk_at dkX6_ends 30 rfl) (by decide) ?_
        cases hf
        exact fin _ _ _ (dk_at dkX6_ends 31 rfl) rfl rfl
      · have hf := (if_pos c14).symm.trans hf
        refine lv_iload_n C.1 C.2.1 (dk_at dkX6_ends 18 rfl) rfl (lv_at hl 3 rfl) ?_
        refine lv_if_eq (tgt := 50) C.1 C.2.1 (dk_at dkX6_ends 19 rfl) (by decide) (fun c15 => ?_) (fun c15 => ?_)
        · have hf := (if_pos c15).symm.trans hf
          refine lv_iconst (v := 1) C.1 C.2.1 (dk_at dkX6_ends 28 rfl) (by decide) ?_
          refine lv_goto (tgt := 55) C.1 C.2.1 (dk_at dkX6_ends 29 rfl) (by decide) ?_
          cases hf
          exact fin _ _ _ (dk_at dkX6_ends 31 rfl) rfl rfl
        · have hf := (if_neg c15).symm.trans hf
          refine lv_aload_n C.1 C.2.1 (dk_at dkX6_ends 20 rfl) rfl (lv_at hl 0 rfl) ?_
          refine lv_aload_n C.1 C.2.1 (dk_at dkX6_ends 21 rfl) rfl (lv_at hl 0 rfl) ?_
          refine r_get (v := .int frm) C hK hP (fun w h => List.mem_cons_of_mem _ (inlX6 w h)) 0 rfl rfl 11 (by decide) (List.mem_cons_of_mem _ (inr13 _ (List.mem_of_getElem? (i := 2) rfl))) rfl (dk_at dkX6_ends 22 rfl) ?_
          refine lv_iconst (v := 5) C.1 C.2.1 (dk_at dkX6_ends 23 rfl) (by decide) ?_
          refine lv_iadd C.1 C.2.1 (dk_at dkX6_ends 24 rfl) ?_
          refine lv_topi (fun x16 ex16 => ?_)
          have hf := nm_at ex16 hf
          obtain ⟨r17, hq18, hf⟩ := bd1_at hf
          refine r_roV (As := [.int x16]) (rest := []) C (kX6_byteAt l g a_m st now isKept hearers draft dHearers dWalls toldWinds tape taped pos frm sort value fault wrongAt landed landedIn stepped isThere isAt isNext landSum heardSum allWays ways drawn lanes sizes cells torn before x16 r17 hq18) (cwV0 C (inr13 _ (List.mem_of_getElem? (i := 8) rfl)) mwX6_byteAt hdX6_byteAt ⟨Nat.le_of_ble_eq_true rfl, Nat.le_of_ble_eq_true rfl⟩) hK hP rfl rfl rfl hl.1 rfl (Nat.le_of_ble_eq_true rfl) ⟨Nat.zero_le _, Nat.zero_le _⟩ (dk_at dkX6_ends 25 rfl) ?_
          refine lv_iload_n C.1 C.2.1 (dk_at dkX6_ends 26 rfl) rfl (lv_at hl 3 rfl) ?_
          refine lv_icmp_ne (tgt := 54) C.1 C.2.1 (dk_at dkX6_ends 27 rfl) (by decide) (fun c19 => ?_) (fun c19 => ?_)
          · have hf := (if_neg c19).symm.trans hf
            refine lv_iconst (v := 0) C.1 C.2.1 (dk_at dkX6_ends 30 rfl) (by decide) ?_
            cases hf
            exact fin _ _ _ (dk_at dkX6_ends 31 rfl) rfl rfl
          · have hf := (if_pos c19).symm.trans hf
            refine lv_iconst (v := 1) C.1 C.2.1 (dk_at dkX6_ends 28 rfl) (by decide) ?_
            refine lv_goto (tgt := 55) C.1 C.2.1 (dk_at dkX6_ends 29 rfl) (by decide) ?_
            cases hf
            exact fin _ _ _ (dk_at dkX6_ends 31 rfl) rfl rfl
-- X6.kindNow
abbrev tbX6_kindNow : List (Nat × Instr × Nat) := [(0, .aload_n 0, 1), (1, .iconst 5, 1), (2, .bipush 112, 2), (4, .bipush 108, 2), (6, .bipush 97, 2), (8, .invokevirtual 106, 3), (11, .ifCond .eq 17, 3), (14, .aload_n 0, 1), (15, .bipush 105, 2), (17, .bipush 110, 2), (19, .iconst 0, 1), (20, .invokevirtual 110, 3), (23, .ifCond .eq 5, 3), (26, .iconst 0, 1), (27, .ireturn, 1), (28, .aload_n 0, 1), (29, .iconst 5, 1), (30, .bipush 115, 2), (32, .bipush 109, 2), (34, .bipush 97, 2), (36, .invokevirtual 106, 3), (39, .ifCond .eq 17, 3), (42, .aload_n 0, 1), (43, .bipush 108, 2), (45, .bipush 108, 2), (47, .iconst 0, 1), (48, .invokevirtual 110, 3), (51, .ifCond .eq 5, 3), (54, .iconst 1, 1), (55, .ireturn, 1), (56, .aload_n 0, 1), (57, .bipush 6, 2), (59, .bipush 115, 2), (61, .bipush 101, 2), (63, .bipush 114, 2), (65, .invokevirtual 106, 3), (68, .ifCond .eq 18, 3), (71, .aload_n 0, 1), (72, .bipush 109, 2), (74, .bipush 111, 2), (76, .bipush 110, 2), (78, .invokevirtual 110, 3), (81, .ifCond .eq 5, 3), (84, .iconst 2, 1), (85, .ireturn, 1), (86, .aload_n 0, 1), (87, .bipush 8, 2), (89, .bipush 112, 2), (91, .bipush 114, 2), (93, .bipush 111, 2), (95, .invokevirtual 106, 3), (98, .ifCond .eq 52, 3), (101, .aload_n 0, 1), (102, .bipush 112, 2), (104, .bipush 111, 2), (106, .bipush 115, 2), (108, .invokevirtual 110, 3), (111, .ifCond .eq 39, 3), (114, .aload_n 0, 1), (115, .aload_n 0, 1), (116, .getfield 93, 3), (119, .bipush 6, 2), (121, .iadd, 1), (122, .invokevirtual 102, 3), (125, .bipush 97, 2), (127, .if_icmp .ne 23, 3), (130, .aload_n 0, 1), (131, .aload_n 0, 1), (132, .getfield 93, 3), (135, .bipush 7, 2), (137, .iadd, 1), (138, .invokevirtual 102, 3), (141, .bipush 108, 2), (143, .if_icmp .ne 7, 3), (146, .iconst 3, 1), (147, .goto 5, 3), (150, .bipush (-4), 2), (152, .ireturn, 1)]
theorem dkX6_kindNow : dk cX6_kindNow tbX6_kindNow := dk_of (by decide +kernel)
abbrev cdX6_kindNow : Cond := Cond.code yX6_kindNow cX6_kindNow 1 (some .int)
abbrev rmX6_kindNow : Room := { frames := 2, cells := 0, slots := 0, locals := 45 }
theorem mwX6_kindNow : Cond.instanceMethod yX6_kindNow ∈ wsL_law ∧ Cond.selects RX6 yX6_kindNow yX6_kindNow ∈ wsL_law ∧ Cond.initialized RX6 ∈ wsL_law ∧ cdX6_kindNow ∈ wsL_law := ⟨inr14 _ (List.mem_of_getElem? (i := 9) rfl), inr14 _ (List.mem_of_getElem? (i := 10) rfl), inr1 _ (List.mem_of_getElem? (i := 5) rfl), inr14 _ (List.mem_of_getElem? (i := 11) rfl)⟩
theorem hdX6_kindNow : yX6_kindNow.cls = RX6 ∧ yX6_kindNow.cls ≠ "java/lang/invoke/MethodHandle" ∧ yX6_kindNow.cls ≠ "java/lang/invoke/VarHandle" ∧ (parseMethodDescriptor yX6_kindNow.desc).map (fun d => d.parameters.length) = some 0 := by decide +kernel
set_option maxHeartbeats 4000000 in
set_option maxRecDepth 100000 in
theorem kX6_kindNow (l : Launch) (g : Gx) (a_m : Nat → Nat) (st : AI) (now : AI) (isKept : AI) (hearers : Int32) (draft : AI) (dHearers : Int32) (dWalls : Int32) (toldWinds : Int32) (tape : AI) (taped : Int32) (pos : Int32) (frm : Int32) (sort : Int32) (value : Int32) (fault : Int32) (wrongAt : Int32) (landed : AI) (landedIn : AI) (stepped : AI) (isThere : AI) (isAt : AI) (isNext : AI) (landSum : Int64) (heardSum : Int64) (allWays : Int64) (ways : AI) (drawn : AI) (lanes : AI) (sizes : AI) (cells : AI) (torn : Int32) (before : AI) (res : Int32) (hf : fX6_kindNow tape taped pos frm = some res) : Met l yX6_kindNow (cdX6_kindNow :: wsL_law) rmX6_kindNow (va_Pc [.ref (a_m 0)] (RO g (wM g a_m st now isKept hearers draft dHearers dWalls toldWinds tape taped pos frm sort value fault wrongAt landed landedIn stepped isThere isAt isNext landSum heardSum allWays ways drawn lanes sizes cells torn before))) (vp_Si (fun x => x = res)) 0 0 (fun _ => False) := by
  refine Met_roi (cc := cX6_kindNow) (maxL := 1) (by decide) rfl (Nat.le_of_ble_eq_true rfl) ?_
  intro P E Z Mi AR BE ME CO Q C fin hK hP ls hl
  have hl : lv_has ls 1 [(0, .ref (a_m 0))] := hl
  unfold fX6_kindNow at hf
  refine lv_aload_n C.1 C.2.1 (dk_at dkX6_kindNow 0 rfl) rfl (lv_at hl 0 rfl) ?_
  refine lv_iconst (v := 5) C.1 C.2.1 (dk_at dkX6_kindNow 1 rfl) (by decide) ?_
  refine lv_bipush (v := 112) C.1 C.2.1 (dk_at dkX6_kindNow 2 rfl) (by decide) ?_
  refine lv_bipush (v := 108) C.1 C.2.1 (dk_at dkX6_kindNow 3 rfl) (by decide) ?_
  refine lv_bipush (v := 97) C.1 C.2.1 (dk_at dkX6_kindNow 4 rfl) (by decide) ?_
  obtain ⟨r1, hq2, hf⟩ := bd1_at hf
  refine r_roV (As := [.int 5, .int 112, .int 108, .int 97]) (rest := []) C (kX6_is l g a_m st now isKept hearers draft dHearers dWalls toldWinds tape taped pos frm sort value fault wrongAt landed landedIn stepped isThere isAt isNext landSum heardSum allWays ways drawn lanes sizes cells torn before 5 112 108 97 r1 hq2) (cwV0 C (inr14 _ (List.mem_of_getElem? (i := 0) rfl)) mwX6_is hdX6_is ⟨Nat.le_of_ble_eq_true rfl, Nat.le_of_ble_eq_true rfl⟩) hK hP rfl rfl rfl hl.1 rfl (Nat.le_of_ble_eq_true rfl) ⟨Nat.zero_le _, Nat.zero_le _⟩ (dk_at dkX6_kindNow 5 rfl) ?_
  refine lv_if_eq (tgt := 28) C.1 C.2.1 (dk_at dkX6_kindNow 6 rfl) (by decide) (fun c3 => ?_) (fun c3 => ?_)
  · have hf := (if_pos c3).symm.trans hf
    refine lv_aload_n C.1 C.2.1 (dk_at dkX6_kindNow 15 rfl) rfl (lv_at hl 0 rfl) ?_
    refine lv_iconst (v := 5) C.1 C.2.1 (dk_at dkX6_kindNow 16 rfl) (by decide) ?_
    refine lv_bipush (v := 115) C.1 C.2.1 (dk_at dkX6_kindNow 17 rfl) (by decide) ?_
    refine lv_bipush (v := 109) C.1 C.2.1 (dk_at dkX6_kindNow 18 rfl) (by decide) ?_
    refine lv_bipush (v := 97) C.1 C.2.1 (dk_at dkX6_kindNow 19 rfl) (by decide) ?_
    obtain ⟨r4, hq5, hf⟩ := bd1_at hf
    refine r_roV (As := [.int 5, .int 115, .int 109, .int 97]) (rest := []) C (kX6_is l g a_m st now isKept hearers draft dHearers dWalls toldWinds tape taped pos frm sort value fault wrongAt landed landedIn stepped isThere isAt isNext landSum heardSum allWays ways drawn lanes sizes cells torn before 5 115 109 97 r4 hq5) (cwV0 C (inr14 _ (List.mem_of_getElem? (i := 0) rfl)) mwX6_is hdX6_is ⟨Nat.le_of_ble_eq_true rfl, Nat.le_of_ble_eq_true rfl⟩) hK hP rfl rfl rfl hl.1 rfl (Nat.le_of_ble_eq_true rfl) ⟨Nat.zero_le _, Nat.zero_le _⟩ (dk_at dkX6_kindNow 20 rfl) ?_
    refine lv_if_eq (tgt := 56) C.1 C.2.1 (dk_at dkX6_kindNow 21 rfl) (by decide) (fun c6 => ?_) (fun c6 => ?_)
    · have hf := (if_pos c6).symm.trans hf
      refine lv_aload_n C.1 C.2.1 (dk_at dkX6_kindNow 30 rfl) rfl (lv_at hl 0 rfl) ?_
      refine lv_bipush (v := 6) C.1 C.2.1 (dk_at dkX6_kindNow 31 rfl) (by decide) ?_
      refine lv_bipush (v := 115) C.1 C.2.1 (dk_at dkX6_kindNow 32 rfl) (by decide) ?_
      refine lv_bipush (v := 101) C.1 C.2.1 (dk_at dkX6_kindNow 33 rfl) (by decide) ?_
      refine lv_bipush (v := 114) C.1 C.2.1 (dk_at dkX6_kindNow 34 rfl) (by decide) ?_
      obtain ⟨r7, hq8, hf⟩ := bd1_at hf
      refine r_roV (As := [.int 6, .int 115, .int 101, .int 114]) (rest := []) C (kX6_is l g a_m st now isKept hearers draft dHearers dWalls toldWinds tape taped pos frm sort value fault wrongAt landed landedIn stepped isThere isAt isNext landSum heardSum allWays ways drawn lanes sizes cells torn before 6 115 101 114 r7 hq8) (cwV0 C (inr14 _ (List.mem_of_getElem? (i := 0) rfl)) mwX6_is hdX6_is ⟨Nat.le_of_ble_eq_true rfl, Nat.le_of_ble_eq_true rfl⟩) hK hP rfl rfl rfl hl.1 rfl (Nat.le_of_ble_eq_true rfl) ⟨Nat.zero_le _, Nat.zero_le _⟩ (dk_at dkX6_kindNow 35 rfl) ?_
      refine lv_if_eq (tgt := 86) C.1 C.2.1 (dk_at dkX6_kindNow 36 rfl) (by decide) (fun c9 => ?_) (fun c9 => ?_)
      · have hf := (if_pos c9).symm.trans hf
        refine lv_aload_n C.1 C.2.1 (dk_at dkX6_kindNow 45 rfl) rfl (lv_at hl 0 rfl) ?_
        refine lv_bipush (v := 8) C.1 C.2.1 (dk_at dkX6_kindNow 46 rfl) (by decide) ?_
        refine lv_bipush (v := 112) C.1 C.2.1 (dk_at dkX6_kindNow 47 rfl) (by decide) ?_
        refine lv_bipush (v := 114) C.1 C.2.1 (dk_at dkX6_kindNow 48 rfl) (by decide) ?_
        refine lv_bipush (v := 111) C.1 C.2.1 (dk_at dkX6_kindNow 49 rfl) (by decide) ?_
        obtain ⟨r10, hq11, hf⟩ := bd1_at hf
        refine r_roV (As := [.int 8, .int 112, .int 114, .int 111]) (rest := []) C (kX6_is l g a_m st now isKept hearers draft dHearers dWalls toldWinds tape taped pos frm sort value fault wrongAt landed landedIn stepped isThere isAt isNext landSum heardSum allWays ways drawn lanes sizes cells torn before 8 112 114 111 r10 hq11) (cwV0 C (inr14 _ (List.mem_of_getElem? (i := 0) rfl)) mwX6_is hdX6_is ⟨Nat.le_of_ble_eq_true rfl, Nat.le_of_ble_eq_true rfl⟩) hK hP rfl rfl rfl hl.1 rfl (Nat.le_of_ble_eq_true rfl) ⟨Nat.zero_le _, Nat.zero_le _⟩ (dk_at dkX6_kindNow 50 rfl) ?_
        refine lv_if_eq (tgt := 150) C.1 C.2.1 (dk_at dkX6_kindNow 51 rfl) (by decide) (fun c12 => ?_) (fun c12 => ?_)
        · have hf := (if_pos c12).symm.trans hf
          refine lv_bipush (v := (-4)) C.1 C.2.1 (dk_at dkX6_kindNow 76 rfl) (by decide) ?_
          cases hf
          exact fin _ _ _ (dk_at dkX6_kindNow 77 rfl) rfl
        · have hf := (if_neg c12).symm.trans hf
          refine lv_aload_n C.1 C.2.1 (dk_at dkX6_kindNow 52 rfl) rfl (lv_at hl 0 rfl) ?_
          refine lv_bipush (v := 112) C.1 C.2.1 (dk_at dkX6_kindNow 53 rfl) (by decide) ?_
          refine lv_bipush (v := 111) C.1 C.2.1 (dk_at dkX6_kindNow 54 rfl) (by decide) ?_
          refine lv_bipush (v := 115) C.1 C.2.1 (dk_at dkX6_kindNow 55 rfl) (by decide) ?_
          obtain ⟨r13, hq14, hf⟩ := bd1_at hf
          refine r_roV (As := [.int 112, .int 111, .int 115]) (rest := []) C (kX6_ends l g a_m st now isKept hearers draft dHearers dWalls toldWinds tape taped pos frm sort value fault wrongAt landed landedIn stepped isThere isAt isNext landSum heardSum allWays ways drawn lanes sizes cells torn before 112 111 115 r13 hq14) (cwV0 C (inr14 _ (List.mem_of_getElem? (i := 4) rfl)) mwX6_ends hdX6_ends ⟨Nat.le_of_ble_eq_true rfl, Nat.le_of_ble_eq_true rfl⟩) hK hP rfl rfl rfl hl.1 rfl (Nat.le_of_ble_eq_true rfl) ⟨Nat.zero_le _, Nat.zero_le _⟩ (dk_at dkX6_kindNow 56 rfl) ?_
          refine lv_if_eq (tgt := 150) C.1 C.2.1 (dk_at dkX6_kindNow 57 rfl) (by decide) (fun c15 => ?_) (fun c15 => ?_)
          · have hf := (if_pos c15).symm.trans hf
            refine lv_bipush (v := (-4)) C.1 C.2.1 (dk_at dkX6_kindNow 76 rfl) (by decide) ?_
            cases hf
            exact fin _ _ _ (dk_at dkX6_kindNow 77 rfl) rfl
          · have hf := (if_neg c15).symm.trans hf
            refine lv_aload_n C.1 C.2.1 (dk_at dkX6_kindNow 58 rfl) rfl (lv_at hl 0 rfl) ?_
            refine lv_aload_n C.1 C.2.1 (dk_at dkX6_kindNow 59 rfl) rfl (lv_at hl 0 rfl) ?_
            refine r_get (v := .int frm) C hK hP (fun w h => List.mem_cons_of_mem _ (inlX6 w h)) 0 rfl rfl 11 (by decide) (List.mem_cons_of_mem _ (inr13 _ (List.mem_of_getElem? (i := 2) rfl))) rfl (dk_at dkX6_kindNow 60 rfl) ?_
            refine lv_bipush (v := 6) C.1 C.2.1 (dk_at dkX6_kindNow 61 rfl) (by decide) ?_
            refine lv_iadd C.1 C.2.1 (dk_at dkX6_kindNow 62 rfl) ?_
            refine lv_topi (fun x16 ex16 => ?_)
            have hf := nm_at ex16 hf
            obtain ⟨r17, hq18, hf⟩ := bd1_at hf
            refine r_roV (As := [.int x16]) (rest := []) C (kX6_byteAt l g a_m st now isKept hearers draft dHearers dWalls toldWinds tape taped pos frm sort value fault wrongAt landed landedIn stepped isThere isAt isNext landSum heardSum allWays ways drawn lanes sizes cells torn before x16 r17 hq18) (cwV0 C (inr13 _ (List.mem_of_getElem? (i := 8) rfl)) mwX6_byteAt hdX6_byteAt ⟨Nat.le_of_ble_eq_true rfl, Nat.le_of_ble_eq_true rfl⟩) hK hP rfl rfl rfl hl.1 rfl (Nat.le_of_ble_eq_true rfl) ⟨Nat.zero_le _, Nat.zero_le _⟩ (dk_at dkX6_kindNow 63 rfl) ?_
            refine lv_bipush (v := 97) C.1 C.2.1 (dk_at dkX6_kindNow 64 rfl) (by decide) ?_
            refine lv_icmp_ne (tgt := 150) C.1 C.2.1 (dk_at dkX6_kindNow 65 rfl) (by decide) (fun c19 => ?_) (fun c19 => ?_)
            · have hf := (if_neg c19).symm.trans hf
              refine lv_bipush (v := (-4)) C.1 C.2.1 (dk_at dkX6_kindNow 76 rfl) (by decide) ?_
              cases hf
              exact fin _ _ _ (dk_at dkX6_kindNow 77 rfl) rfl
            · have hf := (if_pos c19).symm.trans hf
              refine lv_aload_n C.1 C.2.1 (dk_at dkX6_kindNow 66 rfl) rfl (lv_at hl 0 rfl) ?_
              refine lv_aload_n C.1 C.2.1 (dk_at dkX6_kindNow 67 rfl) rfl (lv_at hl 0 rfl) ?_
              refine r_get (v := .int frm) C hK hP (fun w h => List.mem_cons_of_mem _ (inlX6 w h)) 0 rfl rfl 11 (by decide) (List.mem_cons_of_mem _ (inr13 _ (List.mem_of_getElem? (i := 2) rfl))) rfl (dk_at dkX6_kindNow 68 rfl) ?_
              refine lv_bipush (v := 7) C.1 C.2.1 (dk_at dkX6_kindNow 69 rfl) (by decide) ?_
              refine lv_iadd C.1 C.2.1 (dk_at dkX6_kindNow 70 rfl) ?_
              refine lv_topi (fun x20 ex20 => ?_)
              have hf := nm_at ex20 hf
              obtain ⟨r21, hq22, hf⟩ := bd1_at hf
              refine r_roV (As := [.int x20]) (rest := []) C (kX6_byteAt l g a_m st now isKept hearers draft dHearers dWalls toldWinds tape taped pos frm sort value fault wrongAt landed landedIn stepped isThere isAt isNext landSum heardSum allWays ways drawn lanes sizes cells torn before x20 r21 hq22) (cwV0 C (inr13 _ (List.mem_of_getElem? (i := 8) rfl)) mwX6_byteAt hdX6_byteAt ⟨Nat.le_of_ble_eq_true rfl, Nat.le_of_ble_eq_true rfl⟩) hK hP rfl rfl rfl hl.1 rfl (Nat.le_of_ble_eq_true rfl) ⟨Nat.zero_le _, Nat.zero_le _⟩ (dk_at dkX6_kindNow 71 rfl) ?_
              refine lv_bipush (v := 108) C.1 C.2.1 (dk_at dkX6_kindNow 72 rfl) (by decide) ?_
              refine lv_icmp_ne (tgt := 150) C.1 C.2.1 (dk_at dkX6_kindNow 73 rfl) (by decide) (fun c23 => ?_) (fun c23 => ?_)
              · have hf := (if_neg c23).symm.trans hf
                refine lv_bipush (v := (-4)) C.1 C.2.1 (dk_at dkX6_kindNow 76 rfl) (by decide) ?_
                cases hf
                exact fin _ _ _ (dk_at dkX6_kindNow 77 rfl) rfl
              · have hf := (if_pos c23).symm.trans hf
                refine lv_iconst (v := 3) C.1 C.2.1 (dk_at dkX6_kindNow 74 rfl) (by decide) ?_
                refine lv_goto (tgt := 152) C.1 C.2.1 (dk_at dkX6_kindNow 75 rfl) (by decide) ?_
                cases hf
                exact fin _ _ _ (dk_at dkX6_kindNow 77 rfl) rfl
      · have hf := (if_neg c9).symm.trans hf
        refine lv_aload_n C.1 C.2.1 (dk_at dkX6_kindNow 37 rfl) rfl (lv_at hl 0 rfl) ?_
        refine lv_bipush (v := 109) C.1 C.2.1 (dk_at dkX6_kindNow 38 rfl) (by decide) ?_
        refine lv_bipush (v := 111) C.1 C.2.1 (dk_at dkX6_kindNow 39 rfl) (by decide) ?_
        refine lv_bipush (v := 110) C.1 C.2.1 (dk_at dkX6_kindNow 40 rfl) (by decide) ?_
        obtain ⟨r24, hq25, hf⟩ := bd1_at hf
        refine r_roV (As := [.int 109, .int 111, .int 110]) (rest := []) C (kX6_ends l g a_m st now isKept hearers draft dHearers dWalls toldWinds tape taped pos frm sort value fault wrongAt landed landedIn stepped isThere isAt isNext landSum heardSum allWays ways drawn lanes sizes cells torn before 109 111 110 r24 hq25) (cwV0 C (inr14 _ (List.mem_of_getElem? (i := 4) rfl)) mwX6_ends hdX6_ends ⟨Nat.le_of_ble_eq_true rfl, Nat.le_of_ble_eq_true rfl⟩) hK hP rfl rfl rfl hl.1 rfl (Nat.le_of_ble_eq_true rfl) ⟨Nat.zero_le _, Nat.zero_le _⟩ (dk_at dkX6_kindNow 41 rfl) ?_
        refine lv_if_eq (tgt := 86) C.1 C.2.1 (dk_at dkX6_kindNow 42 rfl) (by decide) (fun c26 => ?_) (fun c26 => ?_)
        · have hf := (if_pos c26).symm.trans hf
          refine lv_aload_n C.1 C.2.1 (dk_at dkX6_kindNow 45 rfl) rfl (lv_at hl 0 rfl) ?_
          refine lv_bipush (v := 8) C.1 C.2.1 (dk_at dkX6_kindNow 46 rfl) (by decide) ?_
          refine lv_bipush (v := 112) C.1 C.2.1 (dk_at dkX6_kindNow 47 rfl) (by decide) ?_
          refine lv_bipush (v := 114) C.1 C.2.1 (dk_at dkX6_kindNow 48 rfl) (by decide) ?_
          refine lv_bipush (v := 111) C.1 C.2.1 (dk_at dkX6_kindNow 49 rfl) (by decide) ?_
          obtain ⟨r27, hq28, hf⟩ := bd1_at hf
          refine r_roV (As := [.int 8, .int 112, .int 114, .int 111]) (rest := []) C (kX6_is l g a_m st now isKept hearers draft dHearers dWalls toldWinds tape taped pos frm sort value fault wrongAt landed landedIn stepped isThere isAt isNext landSum heardSum allWays ways drawn lanes sizes cells torn before 8 112 114 111 r27 hq28) (cwV0 C (inr14 _ (List.mem_of_getElem? (i := 0) rfl)) mwX6_is hdX6_is ⟨Nat.le_of_ble_eq_true rfl, Nat.le_of_ble_eq_true rfl⟩) hK hP rfl rfl rfl hl.1 rfl (Nat.le_of_ble_eq_true rfl) ⟨Nat.zero_le _, Nat.zero_le _⟩ (dk_at dkX6_kindNow 50 rfl) ?_
          refine lv_if_eq (tgt := 150) C.1 C.2.1 (dk_at dkX6_kindNow 51 rfl) (by decide) (fun c29 => ?_) (fun c29 => ?_)
          · have hf := (if_pos c29).symm.trans hf
            refine lv_bipush (v := (-4)) C.1 C.2.1 (dk_at dkX6_kindNow 76 rfl) (by decide) ?_
            cases hf
            exact fin _ _ _ (dk_at dkX6_kindNow 77 rfl) rfl
          · have hf := (if_neg c29).symm.trans hf
            refine lv_aload_n C.1 C.2.1 (dk_at dkX6_kindNow 52 rfl) rfl (lv_at hl 0 rfl) ?_
            refine lv_bipush (v := 112) C.1 C.2.1 (dk_at dkX6_kindNow 53 rfl) (by decide) ?_
            refine lv_bipush (v := 111) C.1 C.2.1 (dk_at dkX6_kindNow 54 rfl) (by decide) ?_
            refine lv_bipush (v := 115) C.1 C.2.1 (dk_at dkX6_kindNow 55 rfl) (by decide) ?_
            obtain ⟨r30, hq31, hf⟩ := bd1_at hf
            refine r_roV (As := [.int 112, .int 111, .int 115]) (rest := []) C (kX6_ends l g a_m st now isKept hearers draft dHearers dWalls toldWinds tape taped pos frm sort value fault wrongAt landed landedIn stepped isThere isAt isNext landSum heardSum allWays ways drawn lanes sizes cells torn before 112 111 115 r30 hq31) (cwV0 C (inr14 _ (List.mem_of_getElem? (i := 4) rfl)) mwX6_ends hdX6_ends ⟨Nat.le_of_ble_eq_true rfl, Nat.le_of_ble_eq_true rfl⟩) hK hP rfl rfl rfl hl.1 rfl (Nat.le_of_ble_eq_true rfl) ⟨Nat.zero_le _, Nat.zero_le _⟩ (dk_at dkX6_kindNow 56 rfl) ?_
            refine lv_if_eq (tgt := 150) C.1 C.2.1 (dk_at dkX6_kindNow 57 rfl) (by decide) (fun c32 => ?_) (fun c32 => ?_)
            · have hf := (if_pos c32).symm.trans hf
              refine lv_bipush (v := (-4)) C.1 C.2.1 (dk_at dkX6_kindNow 76 rfl) (by decide) ?_
              cases hf
              exact fin _ _ _ (dk_at dkX6_kindNow 77 rfl) rfl
            · have hf := (if_neg c32).symm.trans hf
              refine lv_aload_n C.1 C.2.1 (dk_at dkX6_kindNow 58 rfl) rfl (lv_at hl 0 rfl) ?_
              refine lv_aload_n C.1 C.2.1 (dk_at dkX6_kindNow 59 rfl) rfl (lv_at hl 0 rfl) ?_
              refine r_get (v := .int frm) C hK hP (fun w h => List.mem_cons_of_mem _ (inlX6 w h)) 0 rfl rfl 11 (by decide) (List.mem_cons_of_mem _ (inr13 _ (List.mem_of_getElem? (i := 2) rfl))) rfl (dk_at dkX6_kindNow 60 rfl) ?_
              refine lv_bipush (v := 6) C.1 C.2.1 (dk_at dkX6_kindNow 61 rfl) (by decide) ?_
              refine lv_iadd C.1 C.2.1 (dk_at dkX6_kindNow 62 rfl) ?_
              refine lv_topi (fun x33 ex33 => ?_)
              have hf := nm_at ex33 hf
              obtain ⟨r34, hq35, hf⟩ := bd1_at hf
              refine r_roV (As := [.int x33]) (rest := []) C (kX6_byteAt l g a_m st now isKept hearers draft dHearers dWalls toldWinds tape taped pos frm sort value fault wrongAt landed landedIn stepped isThere isAt isNext landSum heardSum allWays ways drawn lanes sizes cells torn before x33 r34 hq35) (cwV0 C (inr13 _ (List.mem_of_getElem? (i := 8) rfl)) mwX6_byteAt hdX6_byteAt ⟨Nat.le_of_ble_eq_true rfl, Nat.le_of_ble_eq_true rfl⟩) hK hP rfl rfl rfl hl.1 rfl (Nat.le_of_ble_eq_true rfl) ⟨Nat.zero_le _, Nat.zero_le _⟩ (dk_at dkX6_kindNow 63 rfl) ?_
              refine lv_bipush (v := 97) C.1 C.2.1 (dk_at dkX6_kindNow 64 rfl) (by decide) ?_
              refine lv_icmp_ne (tgt := 150) C.1 C.2.1 (dk_at dkX6_kindNow 65 rfl) (by decide) (fun c36 => ?_) (fun c36 => ?_)
              · have hf := (if_neg c36).symm.trans hf
                refine lv_bipush (v := (-4)) C.1 C.2.1 (dk_at dkX6_kindNow 76 rfl) (by decide) ?_
                cases hf
                exact fin _ _ _ (dk_at dkX6_kindNow 77 rfl) rfl
              · have hf := (if_pos c36).symm.trans hf
                refine lv_aload_n C.1 C.2.1 (dk_at dkX6_kindNow 66 rfl) rfl (lv_at hl 0 rfl) ?_
                refine lv_aload_n C.1 C.2.1 (dk_at dkX6_kindNow 67 rfl) rfl (lv_at hl 0 rfl) ?_
                refine r_get (v := .int frm) C hK hP (fun w h => List.mem_cons_of_mem _ (inlX6 w h)) 0 rfl rfl 11 (by decide) (List.mem_cons_of_mem _ (inr13 _ (List.mem_of_getElem? (i := 2) rfl))) rfl (dk_at dkX6_kindNow 68 rfl) ?_
                refine lv_bipush (v := 7) C.1 C.2.1 (dk_at dkX6_kindNow 69 rfl) (by decide) ?_
                refine lv_iadd C.1 C.2.1 (dk_at dkX6_kindNow 70 rfl) ?_
                refine lv_topi (fun x37 ex37 => ?_)
                have hf := nm_at ex37 hf
                obtain ⟨r38, hq39, hf⟩ := bd1_at hf
                refine r_roV (As := [.int x37]) (rest := []) C (kX6_byteAt l g a_m st now isKept hearers draft dHearers dWalls toldWinds tape taped pos frm sort value fault wrongAt landed landedIn stepped isThere isAt isNext landSum heardSum allWays ways drawn lanes sizes cells torn before x37 r38 hq39) (cwV0 C (inr13 _ (List.mem_of_getElem? (i := 8) rfl)) mwX6_byteAt hdX6_byteAt ⟨Nat.le_of_ble_eq_true rfl, Nat.le_of_ble_eq_true rfl⟩) hK hP rfl rfl rfl hl.1 rfl (Nat.le_of_ble_eq_true rfl) ⟨Nat.zero_le _, Nat.zero_le _⟩ (dk_at dkX6_kindNow 71 rfl) ?_
                refine lv_bipush (v := 108) C.1 C.2.1 (dk_at dkX6_kindNow 72 rfl) (by decide) ?_
                refine lv_icmp_ne (tgt := 150) C.1 C.2.1 (dk_at dkX6_kindNow 73 rfl) (by decide) (fun c40 => ?_) (fun c40 => ?_)
                · have hf := (if_neg c40).symm.trans hf
                  refine lv_bipush (v := (-4)) C.1 C.2.1 (dk_at dkX6_kindNow 76 rfl) (by decide) ?_
                  cases hf
                  exact fin _ _ _ (dk_at dkX6_kindNow 77 rfl) rfl
                · have hf := (if_pos c40).symm.trans hf
                  refine lv_iconst (v := 3) C.1 C.2.1 (dk_at dkX6_kindNow 74 rfl) (by decide) ?_
                  refine lv_goto (tgt := 152) C.1 C.2.1 (dk_at dkX6_kindNow 75 rfl) (by decide) ?_
                  cases hf
                  exact fin _ _ _ (dk_at dkX6_kindNow 77 rfl) rfl
        · have hf := (if_neg c26).symm.trans hf
          refine lv_iconst (v := 2) C.1 C.2.1 (dk_at dkX6_kindNow 43 rfl) (by decide) ?_
          cases hf
          exact fin _ _ _ (dk_at dkX6_kindNow 44 rfl) rfl
    · have hf := (if_neg c6).symm.trans hf
      refine lv_aload_n C.1 C.2.1 (dk_at dkX6_kindNow 22 rfl) rfl (lv_at hl 0 rfl) ?_
      refine lv_bipush (v := 108) C.1 C.2.1 (dk_at dkX6_kindNow 23 rfl) (by decide) ?_
      refine lv_bipush (v := 108) C.1 C.2.1 (dk_at dkX6_kindNow 24 rfl) (by decide) ?_
      refine lv_iconst (v := 0) C.1 C.2.1 (dk_at dkX6_kindNow 25 rfl) (by decide) ?_
      obtain ⟨r41, hq42, hf⟩ := bd1_at hf
      refine r_roV (As := [.int 108, .int 108, .int 0]) (rest := []) C (kX6_ends l g a_m st now isKept hearers draft dHearers dWalls toldWinds tape taped pos frm sort value fault wrongAt landed landedIn stepped isThere isAt isNext landSum heardSum allWays ways drawn lanes sizes cells torn before 108 108 0 r41 hq42) (cwV0 C (inr14 _ (List.mem_of_getElem? (i := 4) rfl)) mwX6_ends hdX6_ends ⟨Nat.le_of_ble_eq_true rfl, Nat.le_of_ble_eq_true rfl⟩) hK hP rfl rfl rfl hl.1 rfl (Nat.le_of_ble_eq_true rfl) ⟨Nat.zero_le _, Nat.zero_le _⟩ (dk_at dkX6_kindNow 26 rfl) ?_
      refine lv_if_eq (tgt := 56) C.1 C.2.1 (dk_at dkX6_kindNow 27 rfl) (by decide) (fun c43 => ?_) (fun c43 => ?_)
      · have hf := (if_pos c43).symm.trans hf
        refine lv_aload_n C.1 C.2.1 (dk_at dkX6_kindNow 30 rfl) rfl (lv_at hl 0 rfl) ?_
        refine lv_bipush (v := 6) C.1 C.2.1 (dk_at dkX6_kindNow 31 rfl) (by decide) ?_
        refine lv_bipush (v := 115) C.1 C.2.1 (dk_at dkX6_kindNow 32 rfl) (by decide) ?_
        refine lv_bipush (v := 101) C.1 C.2.1 (dk_at dkX6_kindNow 33 rfl) (by decide) ?_
        refine lv_bipush (v := 114) C.1 C.2.1 (dk_at dkX6_kindNow 34 rfl) (by decide) ?_
        obtain ⟨r44, hq45, hf⟩ := bd1_at hf
        refine r_roV (As := [.int 6, .int 115, .int 101, .int 114]) (rest := []) C (kX6_is l g a_m st now isKept hearers draft dHearers dWalls toldWinds tape taped pos frm sort value fault wrongAt landed landedIn stepped isThere isAt isNext landSum heardSum allWays ways drawn lanes sizes cells torn before 6 115 101 114 r44 hq45) (cwV0 C (inr14 _ (List.mem_of_getElem? (i := 0) rfl)) mwX6_is hdX6_is ⟨Nat.le_of_ble_eq_true rfl, Nat.le_of_ble_eq_true rfl⟩) hK hP rfl rfl rfl hl.1 rfl (Nat.le_of_ble_eq_true rfl) ⟨Nat.zero_le _, Nat.zero_le _⟩ (dk_at dkX6_kindNow 35 rfl) ?_
        refine lv_if_eq (tgt := 86) C.1 C.2.1 (dk_at dkX6_kindNow 36 rfl) (by decide) (fun c46 => ?_) (fun c46 => ?_)
        · have hf := (if_pos c46).symm.trans hf
          refine lv_aload_n C.1 C.2.1 (dk_at dkX6_kindNow 45 rfl) rfl (lv_at hl 0 rfl) ?_
          refine lv_bipush (v := 8) C.1 C.2.1 (dk_at dkX6_kindNow 46 rfl) (by decide) ?_
          refine lv_bipush (v := 112) C.1 C.2.1 (dk_at dkX6_kindNow 47 rfl) (by decide) ?_
          refine lv_bipush (v := 114) C.1 C.2.1 (dk_at dkX6_kindNow 48 rfl) (by decide) ?_
          refine lv_bipush (v := 111) C.1 C.2.1 (dk_at dkX6_kindNow 49 rfl) (by decide) ?_
          obtain ⟨r47, hq48, hf⟩ := bd1_at hf
          refine r_roV (As := [.int 8, .int 112, .int 114, .int 111]) (rest := []) C (kX6_is l g a_m st now isKept hearers draft dHearers dWalls toldWinds tape taped pos frm sort value fault wrongAt landed landedIn stepped isThere isAt isNext landSum heardSum allWays ways drawn lanes sizes cells torn before 8 112 114 111 r47 hq48) (cwV0 C (inr14 _ (List.mem_of_getElem? (i := 0) rfl)) mwX6_is hdX6_is ⟨Nat.le_of_ble_eq_true rfl, Nat.le_of_ble_eq_true rfl⟩) hK hP rfl rfl rfl hl.1 rfl (Nat.le_of_ble_eq_true rfl) ⟨Nat.zero_le _, Nat.zero_le _⟩ (dk_at dkX6_kindNow 50 rfl) ?_
          refine lv_if_eq (tgt := 150) C.1 C.2.1 (dk_at dkX6_kindNow 51 rfl) (by decide) (fun c49 => ?_) (fun c49 => ?_)
          · have hf := (if_pos c49).symm.trans hf
            refine lv_bipush (v := (-4)) C.1 C.2.1 (dk_at dkX6_kindNow 76 rfl) (by decide) ?_
            cases hf
            exact fin _ _ _ (dk_at dkX6_kindNow 77 rfl) rfl
          · have hf := (if_neg c49).symm.trans hf
            refine lv_aload_n C.1 C.2.1 (dk_at dkX6_kindNow 52 rfl) rfl (lv_at hl 0 rfl) ?_
            refine lv_bipush (v := 112) C.1 C.2.1 (dk_at dkX6_kindNow 53 rfl) (by decide) ?_
            refine lv_bipush (v := 111) C.1 C.2.1 (dk_at dkX6_kindNow 54 rfl) (by decide) ?_
            refine lv_bipush (v := 115) C.1 C.2.1 (dk_at dkX6_kindNow 55 rfl) (by decide) ?_
            obtain ⟨r50, hq51, hf⟩ := bd1_at hf
            refine r_roV (As := [.int 112, .int 111, .int 115]) (rest := []) C (kX6_ends l g a_m st now isKept hearers draft dHearers dWalls toldWinds tape taped pos frm sort value fault wrongAt landed landedIn stepped isThere isAt isNext landSum heardSum allWays ways drawn lanes sizes cells torn before 112 111 115 r50 hq51) (cwV0 C (inr14 _ (List.mem_of_getElem? (i := 4) rfl)) mwX6_ends hdX6_ends ⟨Nat.le_of_ble_eq_true rfl, Nat.le_of_ble_eq_true rfl⟩) hK hP rfl rfl rfl hl.1 rfl (Nat.le_of_ble_eq_true rfl) ⟨Nat.zero_le _, Nat.zero_le _⟩ (dk_at dkX6_kindNow 56 rfl) ?_
            refine lv_if_eq (tgt := 150) C.1 C.2.1 (dk_at dkX6_kindNow 57 rfl) (by decide) (fun c52 => ?_) (fun c52 => ?_)
            · have hf := (if_pos c52).symm.trans hf
              refine lv_bipush (v := (-4)) C.1 C.2.1 (dk_at dkX6_kindNow 76 rfl) (by decide) ?_
              cases hf
              exact fin _ _ _ (dk_at dkX6_kindNow 77 rfl) rfl
            · have hf := (if_neg c52).symm.trans hf
              refine lv_aload_n C.1 C.2.1 (dk_at dkX6_kindNow 58 rfl) rfl (lv_at hl 0 rfl) ?_
              refine lv_aload_n C.1 C.2.1 (dk_at dkX6_kindNow 59 rfl) rfl (lv_at hl 0 rfl) ?_
              refine r_get (v := .int frm) C hK hP (fun w h => List.mem_cons_of_mem _ (inlX6 w h)) 0 rfl rfl 11 (by decide) (List.mem_cons_of_mem _ (inr13 _ (List.mem_of_getElem? (i := 2) rfl))) rfl (dk_at dkX6_kindNow 60 rfl) ?_
              refine lv_bipush (v := 6) C.1 C.2.1 (dk_at dkX6_kindNow 61 rfl) (by decide) ?_
              refine lv_iadd C.1 C.2.1 (dk_at dkX6_kindNow 62 rfl) ?_
              refine lv_topi (fun x53 ex53 => ?_)
              have hf := nm_at ex53 hf
              obtain ⟨r54, hq55, hf⟩ := bd1_at hf
              refine r_roV (As := [.int x53]) (rest := []) C (kX6_byteAt l g a_m st now isKept hearers draft dHearers dWalls toldWinds tape taped pos frm sort value fault wrongAt landed landedIn stepped isThere isAt isNext landSum heardSum allWays ways drawn lanes sizes cells torn before x53 r54 hq55) (cwV0 C (inr13 _ (List.mem_of_getElem? (i := 8) rfl)) mwX6_byteAt hdX6_byteAt ⟨Nat.le_of_ble_eq_true rfl, Nat.le_of_ble_eq_true rfl⟩) hK hP rfl rfl rfl hl.1 rfl (Nat.le_of_ble_eq_true rfl) ⟨Nat.zero_le _, Nat.zero_le _⟩ (dk_at dkX6_kindNow 63 rfl) ?_
              refine lv_bipush (v := 97) C.1 C.2.1 (dk_at dkX6_kindNow 64 rfl) (by decide) ?_
              refine lv_icmp_ne (tgt := 150) C.1 C.2.1 (dk_at dkX6_kindNow 65 rfl) (by decide) (fun c56 => ?_) (fun c56 => ?_)
              · have hf := (if_neg c56).symm.trans hf
                refine lv_bipush (v := (-4)) C.1 C.2.1 (dk_at dkX6_kindNow 76 rfl) (by decide) ?_
                cases hf
                exact fin _ _ _ (dk_at dkX6_kindNow 77 rfl) rfl
              · have hf := (if_pos c56).symm.trans hf
                refine lv_aload_n C.1 C.2.1 (dk_at dkX6_kindNow 66 rfl) rfl (lv_at hl 0 rfl) ?_
                refine lv_aload_n C.1 C.2.1 (dk_at dkX6_kindNow 67 rfl) rfl (lv_at hl 0 rfl) ?_
                refine r_get (v := .int frm) C hK hP (fun w h => List.mem_cons_of_mem _ (inlX6 w h)) 0 rfl rfl 11 (by decide) (List.mem_cons_of_mem _ (inr13 _ (List.mem_of_getElem? (i := 2) rfl))) rfl (dk_at dkX6_kindNow 68 rfl) ?_
                refine lv_bipush (v := 7) C.1 C.2.1 (dk_at dkX6_kindNow 69 rfl) (by decide) ?_
                refine lv_iadd C.1 C.2.1 (dk_at dkX6_kindNow 70 rfl) ?_
                refine lv_topi (fun x57 ex57 => ?_)
                have hf := nm_at ex57 hf
                obtain ⟨r58, hq59, hf⟩ := bd1_at hf
                refine r_roV (As := [.int x57]) (rest := []) C (kX6_byteAt l g a_m st now isKept hearers draft dHearers dWalls toldWinds tape taped pos frm sort value fault wrongAt landed landedIn stepped isThere isAt isNext landSum heardSum allWays ways drawn lanes sizes cells torn before x57 r58 hq59) (cwV0 C (inr13 _ (List.mem_of_getElem? (i := 8) rfl)) mwX6_byteAt hdX6_byteAt ⟨Nat.le_of_ble_eq_true rfl, Nat.le_of_ble_eq_true rfl⟩) hK hP rfl rfl rfl hl.1 rfl (Nat.le_of_ble_eq_true rfl) ⟨Nat.zero_le _, Nat.zero_le _⟩ (dk_at dkX6_kindNow 71 rfl) ?_
                refine lv_bipush (v := 108) C.1 C.2.1 (dk_at dkX6_kindNow 72 rfl) (by decide) ?_
                refine lv_icmp_ne (tgt := 150) C.1 C.2.1 (dk_at dkX6_kindNow 73 rfl) (by decide) (fun c60 => ?_) (fun c60 => ?_)
                · have hf := (if_neg c60).symm.trans hf
                  refine lv_bipush (v := (-4)) C.1 C.2.1 (dk_at dkX6_kindNow 76 rfl) (by decide) ?_
                  cases hf
                  exact fin _ _ _ (dk_at dkX6_kindNow 77 rfl) rfl
                · have hf := (if_pos c60).symm.trans hf
                  refine lv_iconst (v := 3) C.1 C.2.1 (dk_at dkX6_kindNow 74 rfl) (by decide) ?_
                  refine lv_goto (tgt := 152) C.1 C.2.1 (dk_at dkX6_kindNow 75 rfl) (by decide) ?_
                  cases hf
                  exact fin _ _ _ (dk_at dkX6_kindNow 77 rfl) rfl
        · have hf := (if_neg c46).symm.trans hf
          refine lv_aload_n C.1 C.2.1 (dk_at dkX6_kindNow 37 rfl) rfl (lv_at hl 0 rfl) ?_
          refine lv_bipush (v := 109) C.1 C.2.1 (dk_at dkX6_kindNow 38 rfl) (by decide) ?_
          refine lv_bipush (v := 111) C.1 C.2.1 (dk_at dkX6_kindNow 39 rfl) (by decide) ?_
          refine lv_bipush (v := 110) C.1 C.2.1 (dk_at dkX6_kindNow 40 rfl) (by decide) ?_
          obtain ⟨r61, hq62, hf⟩ := bd1_at hf
          refine r_roV (As := [.int 109, .int 111, .int 110]) (rest := []) C (kX6_ends l g a_m st now isKept hearers draft dHearers dWalls toldWinds tape taped pos frm sort value fault wrongAt landed landedIn stepped isThere isAt isNext landSum heardSum allWays ways drawn lanes sizes cells torn before 109 111 110 r61 hq62) (cwV0 C (inr14 _ (List.mem_of_getElem? (i := 4) rfl)) mwX6_ends hdX6_ends ⟨Nat.le_of_ble_eq_true rfl, Nat.le_of_ble_eq_true rfl⟩) hK hP rfl rfl rfl hl.1 rfl (Nat.le_of_ble_eq_true rfl) ⟨Nat.zero_le _, Nat.zero_le _⟩ (dk_at dkX6_kindNow 41 rfl) ?_
          refine lv_if_eq (tgt := 86) C.1 C.2.1 (dk_at dkX6_kindNow 42 rfl) (by decide) (fun c63 => ?_) (fun c63 => ?_)
          · have hf := (if_pos c63).symm.trans hf
            refine lv_aload_n C.1 C.2.1 (dk_at dkX6_kindNow 45 rfl) rfl (lv_at hl 0 rfl) ?_
            refine lv_bipush (v := 8) C.1 C.2.1 (dk_at dkX6_kindNow 46 rfl) (by decide) ?_
            refine lv_bipush (v := 112) C.1 C.2.1 (dk_at dkX6_kindNow 47 rfl) (by decide) ?_
            refine lv_bipush (v := 114) C.1 C.2.1 (dk_at dkX6_kindNow 48 rfl) (by decide) ?_
            refine lv_bipush (v := 111) C.1 C.2.1 (dk_at dkX6_kindNow 49 rfl) (by decide) ?_
            obtain ⟨r64, hq65, hf⟩ := bd1_at hf
            refine r_roV (As := [.int 8, .int 112, .int 114, .int 111]) (rest := []) C (kX6_is l g a_m st now isKept hearers draft dHearers dWalls toldWinds tape taped pos frm sort value fault wrongAt landed landedIn stepped isThere isAt isNext landSum heardSum allWays ways drawn lanes sizes cells torn before 8 112 114 111 r64 hq65) (cwV0 C (inr14 _ (List.mem_of_getElem? (i := 0) rfl)) mwX6_is hdX6_is ⟨Nat.le_of_ble_eq_true rfl, Nat.le_of_ble_eq_true rfl⟩) hK hP rfl rfl rfl hl.1 rfl (Nat.le_of_ble_eq_true rfl) ⟨Nat.zero_le _, Nat.zero_le _⟩ (dk_at dkX6_kindNow 50 rfl) ?_
            refine lv_if_eq (tgt := 150) C.1 C.2.1 (dk_at dkX6_kindNow 51 rfl) (by decide) (fun c66 => ?_) (fun c66 => ?_)
            · have hf := (if_pos c66).symm.trans hf
              refine lv_bipush (v := (-4)) C.1 C.2.1 (dk_at dkX6_kindNow 76 rfl) (by decide) ?_
              cases hf
              exact fin _ _ _ (dk_at dkX6_kindNow 77 rfl) rfl
            · have hf := (if_neg c66).symm.trans hf
              refine lv_aload_n C.1 C.2.1 (dk_at dkX6_kindNow 52 rfl) rfl (lv_at hl 0 rfl) ?_
              refine lv_bipush (v := 112) C.1 C.2.1 (dk_at dkX6_kindNow 53 rfl) (by decide) ?_
              refine lv_bipush (v := 111) C.1 C.2.1 (dk_at dkX6_kindNow 54 rfl) (by decide) ?_
              refine lv_bipush (v := 115) C.1 C.2.1 (dk_at dkX6_kindNow 55 rfl) (by decide) ?_
              obtain ⟨r67, hq68, hf⟩ := bd1_at hf
              refine r_roV (As := [.int 112, .int 111, .int 115]) (rest := []) C (kX6_ends l g a_m st now isKept hearers draft dHearers dWalls toldWinds tape taped pos frm sort value fault wrongAt landed landedIn stepped isThere isAt isNext landSum heardSum allWays ways drawn lanes sizes cells torn before 112 111 115 r67 hq68) (cwV0 C (inr14 _ (List.mem_of_getElem? (i := 4) rfl)) mwX6_ends hdX6_ends ⟨Nat.le_of_ble_eq_true rfl, Nat.le_of_ble_eq_true rfl⟩) hK hP rfl rfl rfl hl.1 rfl (Nat.le_of_ble_eq_true rfl) ⟨Nat.zero_le _, Nat.zero_le _⟩ (dk_at dkX6_kindNow 56 rfl) ?_
              refine lv_if_eq (tgt := 150) C.1 C.2.1 (dk_at dkX6_kindNow 57 rfl) (by decide) (fun c69 => ?_) (fun c69 => ?_)
              · have hf := (if_pos c69).symm.trans hf
                refine lv_bipush (v := (-4)) C.1 C.2.1 (dk_at dkX6_kindNow 76 rfl) (by decide) ?_
                cases hf
                exact fin _ _ _ (dk_at dkX6_kindNow 77 rfl) rfl
              · have hf := (if_neg c69).symm.trans hf
                refine lv_aload_n C.1 C.2.1 (dk_at dkX6_kindNow 58 rfl) rfl (lv_at hl 0 rfl) ?_
                refine lv_aload_n C.1 C.2.1 (dk_at dkX6_kindNow 59 rfl) rfl (lv_at hl 0 rfl) ?_
                refine r_get (v := .int frm) C hK hP (fun w h => List.mem_cons_of_mem _ (inlX6 w h)) 0 rfl rfl 11 (by decide) (List.mem_cons_of_mem _ (inr13 _ (List.mem_of_getElem? (i := 2) rfl))) rfl (dk_at dkX6_kindNow 60 rfl) ?_
                refine lv_bipush (v := 6) C.1 C.2.1 (dk_at dkX6_kindNow 61 rfl) (by decide) ?_
                refine lv_iadd C.1 C.2.1 (dk_at dkX6_kindNow 62 rfl) ?_
                refine lv_topi (fun x70 ex70 => ?_)
                have hf := nm_at ex70 hf
                obtain ⟨r71, hq72, hf⟩ := bd1_at hf
                refine r_roV (As := [.int x70]) (rest := []) C (kX6_byteAt l g a_m st now isKept hearers draft dHearers dWalls toldWinds tape taped pos frm sort value fault wrongAt landed landedIn stepped isThere isAt isNext landSum heardSum allWays ways drawn lanes sizes cells torn before x70 r71 hq72) (cwV0 C (inr13 _ (List.mem_of_getElem? (i := 8) rfl)) mwX6_byteAt hdX6_byteAt ⟨Nat.le_of_ble_eq_true rfl, Nat.le_of_ble_eq_true rfl⟩) hK hP rfl rfl rfl hl.1 rfl (Nat.le_of_ble_eq_true rfl) ⟨Nat.zero_le _, Nat.zero_le _⟩ (dk_at dkX6_kindNow 63 rfl) ?_
                refine lv_bipush (v := 97) C.1 C.2.1 (dk_at dkX6_kindNow 64 rfl) (by decide) ?_
                refine lv_icmp_ne (tgt := 150) C.1 C.2.1 (dk_at dkX6_kindNow 65 rfl) (by decide) (fun c73 => ?_) (fun c73 => ?_)
                · have hf := (if_neg c73).symm.trans hf
                  refine lv_bipush (v := (-4)) C.1 C.2.1 (dk_at dkX6_kindNow 76 rfl) (by decide) ?_
                  cases hf
                  exact fin _ _ _ (dk_at dkX6_kindNow 77 rfl) rfl
                · have hf := (if_pos c73).symm.trans hf
                  refine lv_aload_n C.1 C.2.1 (dk_at dkX6_kindNow 66 rfl) rfl (lv_at hl 0 rfl) ?_
                  refine lv_aload_n C.1 C.2.1 (dk_at dkX6_kindNow 67 rfl) rfl (lv_at hl 0 rfl) ?_
                  refine r_get (v := .int frm) C hK hP (fun w h => List.mem_cons_of_mem _ (inlX6 w h)) 0 rfl rfl 11 (by decide) (List.mem_cons_of_mem _ (inr13 _ (List.mem_of_getElem? (i := 2) rfl))) rfl (dk_at dkX6_kindNow 68 rfl) ?_
                  refine lv_bipush (v := 7) C.1 C.2.1 (dk_at dkX6_kindNow 69 rfl) (by decide) ?_
                  refine lv_iadd C.1 C.2.1 (dk_at dkX6_kindNow 70 rfl) ?_
                  refine lv_topi (fun x74 ex74 => ?_)
                  have hf := nm_at ex74 hf
                  obtain ⟨r75, hq76, hf⟩ := bd1_at hf
                  refine r_roV (As := [.int x74]) (rest := []) C (kX6_byteAt l g a_m st now isKept hearers draft dHearers dWalls toldWinds tape taped pos frm sort value fault wrongAt landed landedIn stepped isThere isAt isNext landSum heardSum allWays ways drawn lanes sizes cells torn before x74 r75 hq76) (cwV0 C (inr13 _ (List.mem_of_getElem? (i := 8) rfl)) mwX6_byteAt hdX6_byteAt ⟨Nat.le_of_ble_eq_true rfl, Nat.le_of_ble_eq_true rfl⟩) hK hP rfl rfl rfl hl.1 rfl (Nat.le_of_ble_eq_true rfl) ⟨Nat.zero_le _, Nat.zero_le _⟩ (dk_at dkX6_kindNow 71 rfl) ?_
                  refine lv_bipush (v := 108) C.1 C.2.1 (dk_at dkX6_kindNow 72 rfl) (by decide) ?_
                  refine lv_icmp_ne (tgt := 150) C.1 C.2.1 (dk_at dkX6_kindNow 73 rfl) (by decide) (fun c77 => ?_) (fun c77 => ?_)
                  · have hf := (if_neg c77).symm.trans hf
                    refine lv_bipush (v := (-4)) C.1 C.2.1 (dk_at dkX6_kindNow 76 rfl) (by decide) ?_
                    cases hf
                    exact fin _ _ _ (dk_at dkX6_kindNow 77 rfl) rfl
                  · have hf := (if_pos c77).symm.trans hf
                    refine lv_iconst (v := 3) C.1 C.2.1 (dk_at dkX6_kindNow 74 rfl) (by decide) ?_
                    refine lv_goto (tgt := 152) C.1 C.2.1 (dk_at dkX6_kindNow 75 rfl) (by decide) ?_
                    cases hf
                    exact fin _ _ _ (dk_at dkX6_kindNow 77 rfl) rfl
          · have hf := (if_neg c63).symm.trans hf
            refine lv_iconst (v := 2) C.1 C.2.1 (dk_at dkX6_kindNow 43 rfl) (by decide) ?_
            cases hf
            exact fin _ _ _ (dk_at dkX6_kindNow 44 rfl) rfl
      · have hf := (if_neg c43).symm.trans hf
        refine lv_iconst (v := 1) C.1 C.2.1 (dk_at dkX6_kindNow 28 rfl) (by decide) ?_
        cases hf
        exact fin _ _ _ (dk_at dkX6_kindNow 29 rfl) rfl
  · have hf := (if_neg c3).symm.trans hf
    refine lv_aload_n C.1 C.2.1 (dk_at dkX6_kindNow 7 rfl) rfl (lv_at hl 0 rfl) ?_
    refine lv_bipush (v := 105) C.1 C.2.1 (dk_at dkX6_kindNow 8 rfl) (by decide) ?_
    refine lv_bipush (v := 110) C.1 C.2.1 (dk_at dkX6_kindNow 9 rfl) (by decide) ?_
    refine lv_iconst (v := 0) C.1 C.2.1 (dk_at dkX6_kindNow 10 rfl) (by decide) ?_
    obtain ⟨r78, hq79, hf⟩ := bd1_at hf
    refine r_roV (As := [.int 105, .int 110, .int 0]) (rest := []) C (kX6_ends l g a_m st now isKept hearers draft dHearers dWalls toldWinds tape taped pos frm sort value fault wrongAt landed landedIn stepped isThere isAt isNext landSum heardSum allWays ways drawn lanes sizes cells torn before 105 110 0 r78 hq79) (cwV0 C (inr14 _ (List.mem_of_getElem? (i := 4) rfl)) mwX6_ends hdX6_ends ⟨Nat.le_of_ble_eq_true rfl, Nat.le_of_ble_eq_true rfl⟩) hK hP rfl rfl rfl hl.1 rfl (Nat.le_of_ble_eq_true rfl) ⟨Nat.zero_le _, Nat.zero_le _⟩ (dk_at dkX6_kindNow 11 rfl) ?_
    refine lv_if_eq (tgt := 28) C.1 C.2.1 (dk_at dkX6_kindNow 12 rfl) (by decide) (fun c80 => ?_) (fun c80 => ?_)
    · have hf := (if_pos c80).symm.trans hf
      refine lv_aload_n C.1 C.2.1 (dk_at dkX6_kindNow 15 rfl) rfl (lv_at hl 0 rfl) ?_
      refine lv_iconst (v := 5) C.1 C.2.1 (dk_at dkX6_kindNow 16 rfl) (by decide) ?_
      refine lv_bipush (v := 115) C.1 C.2.1 (dk_at dkX6_kindNow 17 rfl) (by decide) ?_
      refine lv_bipush (v := 109) C.1 C.2.1 (dk_at dkX6_kindNow 18 rfl) (by decide) ?_
      refine lv_bipush (v := 97) C.1 C.2.1 (dk_at dkX6_kindNow 19 rfl) (by decide) ?_
      obtain ⟨r81, hq82, hf⟩ := bd1_at hf
      refine r_roV (As := [.int 5, .int 115, .int 109, .int 97]) (rest := []) C (kX6_is l g a_m st now isKept hearers draft dHearers dWalls toldWinds tape taped pos frm sort value fault wrongAt landed landedIn stepped isThere isAt isNext landSum heardSum allWays ways drawn lanes sizes cells torn before 5 115 109 97 r81 hq82) (cwV0 C (inr14 _ (List.mem_of_getElem? (i := 0) rfl)) mwX6_is hdX6_is ⟨Nat.le_of_ble_eq_true rfl, Nat.le_of_ble_eq_true rfl⟩) hK hP rfl rfl rfl hl.1 rfl (Nat.le_of_ble_eq_true rfl) ⟨Nat.zero_le _, Nat.zero_le _⟩ (dk_at dkX6_kindNow 20 rfl) ?_
      refine lv_if_eq (tgt := 56) C.1 C.2.1 (dk_at dkX6_kindNow 21 rfl) (by decide) (fun c83 => ?_) (fun c83 => ?_)
      · have hf := (if_pos c83).symm.trans hf
        refine lv_aload_n C.1 C.2.1 (dk_at dkX6_kindNow 30 rfl) rfl (lv_at hl 0 rfl) ?_
        refine lv_bipush (v := 6) C.1 C.2.1 (dk_at dkX6_kindNow 31 rfl) (by decide) ?_
        refine lv_bipush (v := 115) C.1 C.2.1 (dk_at dkX6_kindNow 32 rfl) (by decide) ?_
        refine lv_bipush (v := 101) C.1 C.2.1 (dk_at dkX6_kindNow 33 rfl) (by decide) ?_
        refine lv_bipush (v := 114) C.1 C.2.1 (dk_at dkX6_kindNow 34 rfl) (by decide) ?_
        obtain ⟨r84, hq85, hf⟩ := bd1_at hf
        refine r_roV (As := [.int 6, .int 115, .int 101, .int 114]) (rest := []) C (kX6_is l g a_m st now isKept hearers draft dHearers dWalls toldWinds tape taped pos frm sort value fault wrongAt landed landedIn stepped isThere isAt isNext landSum heardSum allWays ways drawn lanes sizes cells torn before 6 115 101 114 r84 hq85) (cwV0 C (inr14 _ (List.mem_of_getElem? (i := 0) rfl)) mwX6_is hdX6_is ⟨Nat.le_of_ble_eq_true rfl, Nat.le_of_ble_eq_true rfl⟩) hK hP rfl rfl rfl hl.1 rfl (Nat.le_of_ble_eq_true rfl) ⟨Nat.zero_le _, Nat.zero_le _⟩ (dk_at dkX6_kindNow 35 rfl) ?_
        refine lv_if_eq (tgt := 86) C.1 C.2.1 (dk_at dkX6_kindNow 36 rfl) (by decide) (fun c86 => ?_) (fun c86 => ?_)
        · have hf := (if_pos c86).symm.trans hf
          refine lv_aload_n C.1 C.2.1 (dk_at dkX6_kindNow 45 rfl) rfl (lv_at hl 0 rfl) ?_
          refine lv_bipush (v := 8) C.1 C.2.1 (dk_at dkX6_kindNow 46 rfl) (by decide) ?_
          refine lv_bipush (v := 112) C.1 C.2.1 (dk_at dkX6_kindNow 47 rfl) (by decide) ?_
          refine lv_bipush (v := 114) C.1 C.2.1 (dk_at dkX6_kindNow 48 rfl) (by decide) ?_
          refine lv_bipush (v := 111) C.1 C.2.1 (dk_at dkX6_kindNow 49 rfl) (by decide) ?_
          obtain ⟨r87, hq88, hf⟩ := bd1_at hf
          refine r_roV (As := [.int 8, .int 112, .int 114, .int 111]) (rest := []) C (kX6_is l g a_m st now isKept hearers draft dHearers dWalls toldWinds tape taped pos frm sort value fault wrongAt landed landedIn stepped isThere isAt isNext landSum heardSum allWays ways drawn lanes sizes cells torn before 8 112 114 111 r87 hq88) (cwV0 C (inr14 _ (List.mem_of_getElem? (i := 0) rfl)) mwX6_is hdX6_is ⟨Nat.le_of_ble_eq_true rfl, Nat.le_of_ble_eq_true rfl⟩) hK hP rfl rfl rfl hl.1 rfl (Nat.le_of_ble_eq_true rfl) ⟨Nat.zero_le _, Nat.zero_le _⟩ (dk_at dkX6_kindNow 50 rfl) ?_
          refine lv_if_eq (tgt := 150) C.1 C.2.1 (dk_at dkX6_kindNow 51 rfl) (by decide) (fun c89 => ?_) (fun c89 => ?_)
          · have hf := (if_pos c89).symm.trans hf
            refine lv_bipush (v := (-4)) C.1 C.2.1 (dk_at dkX6_kindNow 76 rfl) (by decide) ?_
            cases hf
            exact fin _ _ _ (dk_at dkX6_kindNow 77 rfl) rfl
          · have hf := (if_neg c89).symm.trans hf
            refine lv_aload_n C.1 C.2.1 (dk_at dkX6_kindNow 52 rfl) rfl (lv_at hl 0 rfl) ?_
            refine lv_bipush (v := 112) C.1 C.2.1 (dk_at dkX6_kindNow 53 rfl) (by decide) ?_
            refine lv_bipush (v := 111) C.1 C.2.1 (dk_at dkX6_kindNow 54 rfl) (by decide) ?_
            refine lv_bipush (v := 115) C.1 C.2.1 (dk_at dkX6_kindNow 55 rfl) (by decide) ?_
            obtain ⟨r90, hq91, hf⟩ := bd1_at hf
            refine r_roV (As := [.int 112, .int 111, .int 115]) (rest := []) C (kX6_ends l g a_m st now isKept hearers draft dHearers dWalls toldWinds tape taped pos frm sort value fault wrongAt landed landedIn stepped isThere isAt isNext landSum heardSum allWays ways drawn lanes sizes cells torn before 112 111 115 r90 hq91) (cwV0 C (inr14 _ (List.mem_of_getElem? (i := 4) rfl)) mwX6_ends hdX6_ends ⟨Nat.le_of_ble_eq_true rfl, Nat.le_of_ble_eq_true rfl⟩) hK hP rfl rfl rfl hl.1 rfl (Nat.le_of_ble_eq_true rfl) ⟨Nat.zero_le _, Nat.zero_le _⟩ (dk_at dkX6_kindNow 56 rfl) ?_
            refine lv_if_eq (tgt := 150) C.1 C.2.1 (dk_at dkX6_kindNow 57 rfl) (by decide) (fun c92 => ?_) (fun c92 => ?_)
            · have hf := (if_pos c92).symm.trans hf
              refine lv_bipush (v := (-4)) C.1 C.2.1 (dk_at dkX6_kindNow 76 rfl) (by decide) ?_
              cases hf
              exact fin _ _ _ (dk_at dkX6_kindNow 77 rfl) rfl
            · have hf := (if_neg c92).symm.trans hf
              refine lv_aload_n C.1 C.2.1 (dk_at dkX6_kindNow 58 rfl) rfl (lv_at hl 0 rfl) ?_
              refine lv_aload_n C.1 C.2.1 (dk_at dkX6_kindNow 59 rfl) rfl (lv_at hl 0 rfl) ?_
              refine r_get (v := .int frm) C hK hP (fun w h => List.mem_cons_of_mem _ (inlX6 w h)) 0 rfl rfl 11 (by decide) (List.mem_cons_of_mem _ (inr13 _ (List.mem_of_getElem? (i := 2) rfl))) rfl (dk_at dkX6_kindNow 60 rfl) ?_
              refine lv_bipush (v := 6) C.1 C.2.1 (dk_at dkX6_kindNow 61 rfl) (by decide) ?_
              refine lv_iadd C.1 C.2.1 (dk_at dkX6_kindNow 62 rfl) ?_
              refine lv_topi (fun x93 ex93 => ?_)
              have hf := nm_at ex93 hf
              obtain ⟨r94, hq95, hf⟩ := bd1_at hf
              refine r_roV (As := [.int x93]) (rest := []) C (kX6_byteAt l g a_m st now isKept hearers draft dHearers dWalls toldWinds tape taped pos frm sort value fault wrongAt landed landedIn stepped isThere isAt isNext landSum heardSum allWays ways drawn lanes sizes cells torn before x93 r94 hq95) (cwV0 C (inr13 _ (List.mem_of_getElem? (i := 8) rfl)) mwX6_byteAt hdX6_byteAt ⟨Nat.le_of_ble_eq_true rfl, Nat.le_of_ble_eq_true rfl⟩) hK hP rfl rfl rfl hl.1 rfl (Nat.le_of_ble_eq_true rfl) ⟨Nat.zero_le _, Nat.zero_le _⟩ (dk_at dkX6_kindNow 63 rfl) ?_
              refine lv_bipush (v := 97) C.1 C.2.1 (dk_at dkX6_kindNow 64 rfl) (by decide) ?_
              refine lv_icmp_ne (tgt := 150) C.1 C.2.1 (dk_at dkX6_kindNow 65 rfl) (by decide) (fun c96 => ?_) (fun c96 => ?_)
              · have hf := (if_neg c96).symm.trans hf
                refine lv_bipush (v := (-4)) C.1 C.2.1 (dk_at dkX6_kindNow 76 rfl) (by decide) ?_
                cases hf
                exact fin _ _ _ (dk_at dkX6_kindNow 77 rfl) rfl
              · have hf := (if_pos c96).symm.trans hf
                refine lv_aload_n C.1 C.2.1 (dk_at dkX6_kindNow 66 rfl) rfl (lv_at hl 0 rfl) ?_
                refine lv_aload_n C.1 C.2.1 (dk_at dkX6_kindNow 67 rfl) rfl (lv_at hl 0 rfl) ?_
                refine r_get (v := .int frm) C hK hP (fun w h => List.mem_cons_of_mem _ (inlX6 w h)) 0 rfl rfl 11 (by decide) (List.mem_cons_of_mem _ (inr13 _ (List.mem_of_getElem? (i := 2) rfl))) rfl (dk_at dkX6_kindNow 68 rfl) ?_
                refine lv_bipush (v := 7) C.1 C.2.1 (dk_at dkX6_kindNow 69 rfl) (by decide) ?_
                refine lv_iadd C.1 C.2.1 (dk_at dkX6_kindNow 70 rfl) ?_
                refine lv_topi (fun x97 ex97 => ?_)
                have hf := nm_at ex97 hf
                obtain ⟨r98, hq99, hf⟩ := bd1_at hf
                refine r_roV (As := [.int x97]) (rest := []) C (kX6_byteAt l g a_m st now isKept hearers draft dHearers dWalls toldWinds tape taped pos frm sort value fault wrongAt landed landedIn stepped isThere isAt isNext landSum heardSum allWays ways drawn lanes sizes cells torn before x97 r98 hq99) (cwV0 C (inr13 _ (List.mem_of_getElem? (i := 8) rfl)) mwX6_byteAt hdX6_byteAt ⟨Nat.le_of_ble_eq_true rfl, Nat.le_of_ble_eq_true rfl⟩) hK hP rfl rfl rfl hl.1 rfl (Nat.le_of_ble_eq_true rfl) ⟨Nat.zero_le _, Nat.zero_le _⟩ (dk_at dkX6_kindNow 71 rfl) ?_
                refine lv_bipush (v := 108) C.1 C.2.1 (dk_at dkX6_kindNow 72 rfl) (by decide) ?_
                refine lv_icmp_ne (tgt := 150) C.1 C.2.1 (dk_at dkX6_kindNow 73 rfl) (by decide) (fun c100 => ?_) (fun c100 => ?_)
                · have hf := (if_neg c100).symm.trans hf
                  refine lv_bipush (v := (-4)) C.1 C.2.1 (dk_at dkX6_kindNow 76 rfl) (by decide) ?_
                  cases hf
                  exact fin _ _ _ (dk_at dkX6_kindNow 77 rfl) rfl
                · have hf := (if_pos c100).symm.trans hf
                  refine lv_iconst (v := 3) C.1 C.2.1 (dk_at dkX6_kindNow 74 rfl) (by decide) ?_
                  refine lv_goto (tgt := 152) C.1 C.2.1 (dk_at dkX6_kindNow 75 rfl) (by decide) ?_
                  cases hf
                  exact fin _ _ _ (dk_at dkX6_kindNow 77 rfl) rfl
        · have hf := (if_neg c86).symm.trans hf
          refine lv_aload_n C.1 C.2.1 (dk_at dkX6_kindNow 37 rfl) rfl (lv_at hl 0 rfl) ?_
          refine lv_bipush (v := 109) C.1 C.2.1 (dk_at dkX6_kindNow 38 rfl) (by decide) ?_
          refine lv_bipush (v := 111) C.1 C.2.1 (dk_at dkX6_kindNow 39 rfl) (by decide) ?_
          refine lv_bipush (v := 110) C.1 C.2.1 (dk_at dkX6_kindNow 40 rfl) (by decide) ?_
          obtain ⟨r101, hq102, hf⟩ := bd1_at hf
          refine r_roV (As := [.int 109, .int 111, .int 110]) (rest := []) C (kX6_ends l g a_m st now isKept hearers draft dHearers dWalls toldWinds tape taped pos frm sort value fault wrongAt landed landedIn stepped isThere isAt isNext landSum heardSum allWays ways drawn lanes sizes cells torn before 109 111 110 r101 hq102) (cwV0 C (inr14 _ (List.mem_of_getElem? (i := 4) rfl)) mwX6_ends hdX6_ends ⟨Nat.le_of_ble_eq_true rfl, Nat.le_of_ble_eq_true rfl⟩) hK hP rfl rfl rfl hl.1 rfl (Nat.le_of_ble_eq_true rfl) ⟨Nat.zero_le _, Nat.zero_le _⟩ (dk_at dkX6_kindNow 41 rfl) ?_
          refine lv_if_eq (tgt := 86) C.1 C.2.1 (dk_at dkX6_kindNow 42 rfl) (by decide) (fun c103 => ?_) (fun c103 => ?_)
          · have hf := (if_pos c103).symm.trans hf
            refine lv_aload_n C.1 C.2.1 (dk_at dkX6_kindNow 45 rfl) rfl (lv_at hl 0 rfl) ?_
            refine lv_bipush (v := 8) C.1 C.2.1 (dk_at dkX6_kindNow 46 rfl) (by decide) ?_
            refine lv_bipush (v := 112) C.1 C.2.1 (dk_at dkX6_kindNow 47 rfl) (by decide) ?_
            refine lv_bipush (v := 114) C.1 C.2.1 (dk_at dkX6_kindNow 48 rfl) (by decide) ?_
            refine lv_bipush (v := 111) C.1 C.2.1 (dk_at dkX6_kindNow 49 rfl) (by decide) ?_
            obtain ⟨r104, hq105, hf⟩ := bd1_at hf
            refine r_roV (As := [.int 8, .int 112, .int 114, .int 111]) (rest := []) C (kX6_is l g a_m st now isKept hearers draft dHearers dWalls toldWinds tape taped pos frm sort value fault wrongAt landed landedIn stepped isThere isAt isNext landSum heardSum allWays ways drawn lanes sizes cells torn before 8 112 114 111 r104 hq105) (cwV0 C (inr14 _ (List.mem_of_getElem? (i := 0) rfl)) mwX6_is hdX6_is ⟨Nat.le_of_ble_eq_true rfl, Nat.le_of_ble_eq_true rfl⟩) hK hP rfl rfl rfl hl.1 rfl (Nat.le_of_ble_eq_true rfl) ⟨Nat.zero_le _, Nat.zero_le _⟩ (dk_at dkX6_kindNow 50 rfl) ?_
            refine lv_if_eq (tgt := 150) C.1 C.2.1 (dk_at dkX6_kindNow 51 rfl) (by decide) (fun c106 => ?_) (fun c106 => ?_)
            · have hf := (if_pos c106).symm.trans hf
              refine lv_bipush (v := (-4)) C.1 C.2.1 (dk_at dkX6_kindNow 76 rfl) (by decide) ?_
              cases hf
              exact fin _ _ _ (dk_at dkX6_kindNow 77 rfl) rfl
            · have hf := (if_neg c106).symm.trans hf
              refine lv_aload_n C.1 C.2.1 (dk_at dkX6_kindNow 52 rfl) rfl (lv_at hl 0 rfl) ?_
              refine lv_bipush (v := 112) C.1 C.2.1 (dk_at dkX6_kindNow 53 rfl) (by decide) ?_
              refine lv_bipush (v := 111) C.1 C.2.1 (dk_at dkX6_kindNow 54 rfl) (by decide) ?_
              refine lv_bipush (v := 115) C.1 C.2.1 (dk_at dkX6_kindNow 55 rfl) (by decide) ?_
              obtain ⟨r107, hq108, hf⟩ := bd1_at hf
              refine r_roV (As := [.int 112, .int 111, .int 115]) (rest := []) C (kX6_ends l g a_m st now isKept hearers draft dHearers dWalls toldWinds tape taped pos frm sort value fault wrongAt landed landedIn stepped isThere isAt isNext landSum heardSum allWays ways drawn lanes sizes cells torn before 112 111 115 r107 hq108) (cwV0 C (inr14 _ (List.mem_of_getElem? (i := 4) rfl)) mwX6_ends hdX6_ends ⟨Nat.le_of_ble_eq_true rfl, Nat.le_of_ble_eq_true rfl⟩) hK hP rfl rfl rfl hl.1 rfl (Nat.le_of_ble_eq_true rfl) ⟨Nat.zero_le _, Nat.zero_le _⟩ (dk_at dkX6_kindNow 56 rfl) ?_
              refine lv_if_eq (tgt := 150) C.1 C.2.1 (dk_at dkX6_kindNow 57 rfl) (by decide) (fun c109 => ?_) (fun c109 => ?_)
              · have hf := (if_pos c109).symm.trans hf
                refine lv_bipush (v := (-4)) C.1 C.2.1 (dk_at dkX6_kindNow 76 rfl) (by decide) ?_
                cases hf
                exact fin _ _ _ (dk_at dkX6_kindNow 77 rfl) rfl
              · have hf := (if_neg c109).symm.trans hf
                refine lv_aload_n C.1 C.2.1 (dk_at dkX6_kindNow 58 rfl) rfl (lv_at hl 0 rfl) ?_
                refine lv_aload_n C.1 C.2.1 (dk_at dkX6_kindNow 59 rfl) rfl (lv_at hl 0 rfl) ?_
                refine r_get (v := .int frm) C hK hP (fun w h => List.mem_cons_of_mem _ (inlX6 w h)) 0 rfl rfl 11 (by decide) (List.mem_cons_of_mem _ (inr13 _ (List.mem_of_getElem? (i := 2) rfl))) rfl (dk_at dkX6_kindNow 60 rfl) ?_
                refine lv_bipush (v := 6) C.1 C.2.1 (dk_at dkX6_kindNow 61 rfl) (by decide) ?_
                refine lv_iadd C.1 C.2.1 (dk_at dkX6_kindNow 62 rfl) ?_
                refine lv_topi (fun x110 ex110 => ?_)
                have hf := nm_at ex110 hf
                obtain ⟨r111, hq112, hf⟩ := bd1_at hf
                refine r_roV (As := [.int x110]) (rest := []) C (kX6_byteAt l g a_m st now isKept hearers draft dHearers dWalls toldWinds tape taped pos frm sort value fault wrongAt landed landedIn stepped isThere isAt isNext landSum heardSum allWays ways drawn lanes sizes cells torn before x110 r111 hq112) (cwV0 C (inr13 _ (List.mem_of_getElem? (i := 8) rfl)) mwX6_byteAt hdX6_byteAt ⟨Nat.le_of_ble_eq_true rfl, Nat.le_of_ble_eq_true rfl⟩) hK hP rfl rfl rfl hl.1 rfl (Nat.le_of_ble_eq_true rfl) ⟨Nat.zero_le _, Nat.zero_le _⟩ (dk_at dkX6_kindNow 63 rfl) ?_
                refine lv_bipush (v := 97) C.1 C.2.1 (dk_at dkX6_kindNow 64 rfl) (by decide) ?_
                refine lv_icmp_ne (tgt := 150) C.1 C.2.1 (dk_at dkX6_kindNow 65 rfl) (by decide) (fun c113 => ?_) (fun c113 => ?_)
                · have hf := (if_neg c113).symm.trans hf
                  refine lv_bipush (v := (-4)) C.1 C.2.1 (dk_at dkX6_kindNow 76 rfl) (by decide) ?_
                  cases hf
                  exact fin _ _ _ (dk_at dkX6_kindNow 77 rfl) rfl
                · have hf := (if_pos c113).symm.trans hf
                  refine lv_aload_n C.1 C.2.1 (dk_at dkX6_kindNow 66 rfl) rfl (lv_at hl 0 rfl) ?_
                  refine lv_aload_n C.1 C.2.1 (dk_at dkX6_kindNow 67 rfl) rfl (lv_at hl 0 rfl) ?_
                  refine r_get (v := .int frm) C hK hP (fun w h => List.mem_cons_of_mem _ (inlX6 w h)) 0 rfl rfl 11 (by decide) (List.mem_cons_of_mem _ (inr13 _ (List.mem_of_getElem? (i := 2) rfl))) rfl (dk_at dkX6_kindNow 68 rfl) ?_
                  refine lv_bipush (v := 7) C.1 C.2.1 (dk_at dkX6_kindNow 69 rfl) (by decide) ?_
                  refine lv_iadd C.1 C.2.1 (dk_at dkX6_kindNow 70 rfl) ?_
                  refine lv_topi (fun x114 ex114 => ?_)
                  have hf := nm_at ex114 hf
                  obtain ⟨r115, hq116, hf⟩ := bd1_at hf
                  refine r_roV (As := [.int x114]) (rest := []) C (kX6_byteAt l g a_m st now isKept hearers draft dHearers dWalls toldWinds tape taped pos frm sort value fault wrongAt landed landedIn stepped isThere isAt isNext landSum heardSum allWays ways drawn lanes sizes cells torn before x114 r115 hq116) (cwV0 C (inr13 _ (List.mem_of_getElem? (i := 8) rfl)) mwX6_byteAt hdX6_byteAt ⟨Nat.le_of_ble_eq_true rfl, Nat.le_of_ble_eq_true rfl⟩) hK hP rfl rfl rfl hl.1 rfl (Nat.le_of_ble_eq_true rfl) ⟨Nat.zero_le _, Nat.zero_le _⟩ (dk_at dkX6_kindNow 71 rfl) ?_
                  refine lv_bipush (v := 108) C.1 C.2.1 (dk_at dkX6_kindNow 72 rfl) (by decide) ?_
                  refine lv_icmp_ne (tgt := 150) C.1 C.2.1 (dk_at dkX6_kindNow 73 rfl) (by decide) (fun c117 => ?_) (fun c117 => ?_)
                  · have hf := (if_neg c117).symm.trans hf
                    refine lv_bipush (v := (-4)) C.1 C.2.1 (dk_at dkX6_kindNow 76 rfl) (by decide) ?_
                    cases hf
                    exact fin _ _ _ (dk_at dkX6_kindNow 77 rfl) rfl
                  · have hf := (if_pos c117).symm.trans hf
                    refine lv_iconst (v := 3) C.1 C.2.1 (dk_at dkX6_kindNow 74 rfl) (by decide) ?_
                    refine lv_goto (tgt := 152) C.1 C.2.1 (dk_at dkX6_kindNow 75 rfl) (by decide) ?_
                    cases hf
                    exact fin _ _ _ (dk_at dkX6_kindNow 77 rfl) rfl
          · have hf := (if_neg c103).symm.trans hf
            refine lv_iconst (v := 2) C.1 C.2.1 (dk_at dkX6_kindNow 43 rfl) (by decide) ?_
            cases hf
            exact fin _ _ _ (dk_at dkX6_kindNow 44 rfl) rfl
      · have hf := (if_neg c83).symm.trans hf
        refine lv_aload_n C.1 C.2.1 (dk_at dkX6_kindNow 22 rfl) rfl (lv_at hl 0 rfl) ?_
        refine lv_bipush (v := 108) C.1 C.2.1 (dk_at dkX6_kindNow 23 rfl) (by decide) ?_
        refine lv_bipush (v := 108) C.1 C.2.1 (dk_at dkX6_kindNow 24 rfl) (by decide) ?_
        refine lv_iconst (v := 0) C.1 C.2.1 (dk_at dkX6_kindNow 25 rfl) (by decide) ?_
        obtain ⟨r118, hq119, hf⟩ := bd1_at hf
        refine r_roV (As := [.int 108, .int 108, .int 0]) (rest := []) C (kX6_ends l g a_m st now isKept hearers draft dHearers dWalls toldWinds tape taped pos frm sort value fault wrongAt landed landedIn stepped isThere isAt isNext landSum heardSum allWays ways drawn lanes sizes cells torn before 108 108 0 r118 hq119) (cwV0 C (inr14 _ (List.mem_of_getElem? (i := 4) rfl)) mwX6_ends hdX6_ends ⟨Nat.le_of_ble_eq_true rfl, Nat.le_of_ble_eq_true rfl⟩) hK hP rfl rfl rfl hl.1 rfl (Nat.le_of_ble_eq_true rfl) ⟨Nat.zero_le _, Nat.zero_le _⟩ (dk_at dkX6_kindNow 26 rfl) ?_
        refine lv_if_eq (tgt := 56) C.1 C.2.1 (dk_at dkX6_kindNow 27 rfl) (by decide) (fun c120 => ?_) (fun c120 => ?_)
        · have hf := (if_pos c120).symm.trans hf
          refine lv_aload_n C.1 C.2.1 (dk_at dkX6_kindNow 30 rfl) rfl (lv_at hl 0 rfl) ?_
          refine lv_bipush (v := 6) C.1 C.2.1 (dk_at dkX6_kindNow 31 rfl) (by decide) ?_
          refine lv_bipush (v := 115) C.1 C.2.1 (dk_at dkX6_kindNow 32 rfl) (by decide) ?_
          refine lv_bipush (v := 101) C.1 C.2.1 (dk_at dkX6_kindNow 33 rfl) (by decide) ?_
          refine lv_bipush (v := 114) C.1 C.2.1 (dk_at dkX6_kindNow 34 rfl) (by decide) ?_
          obtain ⟨r121, hq122, hf⟩ := bd1_at hf
          refine r_roV (As := [.int 6, .int 115, .int 101, .int 114]) (rest := []) C (kX6_is l g a_m st now isKept hearers draft dHearers dWalls toldWinds tape taped pos frm sort value fault wrongAt landed landedIn stepped isThere isAt isNext landSum heardSum allWays ways drawn lanes sizes cells torn before 6 115 101 114 r121 hq122) (cwV0 C (inr14 _ (List.mem_of_getElem? (i := 0) rfl)) mwX6_is hdX6_is ⟨Nat.le_of_ble_eq_true rfl, Nat.le_of_ble_eq_true rfl⟩) hK hP rfl rfl rfl hl.1 rfl (Nat.le_of_ble_eq_true rfl) ⟨Nat.zero_le _, Nat.zero_le _⟩ (dk_at dkX6_kindNow 35 rfl) ?_
          refine lv_if_eq (tgt := 86) C.1 C.2.1 (dk_at dkX6_kindNow 36 rfl) (by decide) (fun c123 => ?_) (fun c123 => ?_)
          · have hf := (if_pos c123).symm.trans hf
            refine lv_aload_n C.1 C.2.1 (dk_at dkX6_kindNow 45 rfl) rfl (lv_at hl 0 rfl) ?_
            refine lv_bipush (v := 8) C.1 C.2.1 (dk_at dkX6_kindNow 46 rfl) (by decide) ?_
            refine lv_bipush (v := 112) C.1 C.2.1 (dk_at dkX6_kindNow 47 rfl) (by decide) ?_
            refine lv_bipush (v := 114) C.1 C.2.1 (dk_at dkX6_kindNow 48 rfl) (by decide) ?_
            refine lv_bipush (v := 111) C.1 C.2.1 (dk_at dkX6_kindNow 49 rfl) (by decide) ?_
            obtain ⟨r124, hq125, hf⟩ := bd1_at hf
            refine r_roV (As := [.int 8, .int 112, .int 114, .int 111]) (rest := []) C (kX6_is l g a_m st now isKept hearers draft dHearers dWalls toldWinds tape taped pos frm sort value fault wrongAt landed landedIn stepped isThere isAt isNext landSum heardSum allWays ways drawn lanes sizes cells torn before 8 112 114 111 r124 hq125) (cwV0 C (inr14 _ (List.mem_of_getElem? (i := 0) rfl)) mwX6_is hdX6_is ⟨Nat.le_of_ble_eq_true rfl, Nat.le_of_ble_eq_true rfl⟩) hK hP rfl rfl rfl hl.1 rfl (Nat.le_of_ble_eq_true rfl) ⟨Nat.zero_le _, Nat.zero_le _⟩ (dk_at dkX6_kindNow 50 rfl) ?_
            refine lv_if_eq (tgt := 150) C.1 C.2.1 (dk_at dkX6_kindNow 51 rfl) (by decide) (fun c126 => ?_) (fun c126 => ?_)
            · have hf := (if_pos c126).symm.trans hf
              refine lv_bipush (v := (-4)) C.1 C.2.1 (dk_at dkX6_kindNow 76 rfl) (by decide) ?_
              cases hf
              exact fin _ _ _ (dk_at dkX6_kindNow 77 rfl) rfl
            · have hf := (if_neg c126).symm.trans hf
              refine lv_aload_n C.1 C.2.1 (dk_at dkX6_kindNow 52 rfl) rfl (lv_at hl 0 rfl) ?_
              refine lv_bipush (v := 112) C.1 C.2.1 (dk_at dkX6_kindNow 53 rfl) (by decide) ?_
              refine lv_bipush (v := 111) C.1 C.2.1 (dk_at dkX6_kindNow 54 rfl) (by decide) ?_
              refine lv_bipush (v := 115) C.1 C.2.1 (dk_at dkX6_kindNow 55 rfl) (by decide) ?_
              obtain ⟨r127, hq128, hf⟩ := bd1_at hf
              refine r_roV (As := [.int 112, .int 111, .int 115]) (rest := []) C (kX6_ends l g a_m st now isKept hearers draft dHearers dWalls toldWinds tape taped pos frm sort value fault wrongAt landed landedIn stepped isThere isAt isNext landSum heardSum allWays ways drawn lanes sizes cells torn before 112 111 115 r127 hq128) (cwV0 C (inr14 _ (List.mem_of_getElem? (i := 4) rfl)) mwX6_ends hdX6_ends ⟨Nat.le_of_ble_eq_true rfl, Nat.le_of_ble_eq_true rfl⟩) hK hP rfl rfl rfl hl.1 rfl (Nat.le_of_ble_eq_true rfl) ⟨Nat.zero_le _, Nat.zero_le _⟩ (dk_at dkX6_kindNow 56 rfl) ?_
              refine lv_if_eq (tgt := 150) C.1 C.2.1 (dk_at dkX6_kindNow 57 rfl) (by decide) (fun c129 => ?_) (fun c129 => ?_)
              · have hf := (if_pos c129).symm.trans hf
                refine lv_bipush (v := (-4)) C.1 C.2.1 (dk_at dkX6_kindNow 76 rfl) (by decide) ?_
                cases hf
                exact fin _ _ _ (dk_at dkX6_kindNow 77 rfl) rfl
              · have hf := (if_neg c129).symm.trans hf
                refine lv_aload_n C.1 C.2.1 (dk_at dkX6_kindNow 58 rfl) rfl (lv_at hl 0 rfl) ?_
                refine lv_aload_n C.1 C.2.1 (dk_at dkX6_kindNow 59 rfl) rfl (lv_at hl 0 rfl) ?_
                refine r_get (v := .int frm) C hK hP (fun w h => List.mem_cons_of_mem _ (inlX6 w h)) 0 rfl rfl 11 (by decide) (List.mem_cons_of_mem _ (inr13 _ (List.mem_of_getElem? (i := 2) rfl))) rfl (dk_at dkX6_kindNow 60 rfl) ?_
                refine lv_bipush (v := 6) C.1 C.2.1 (dk_at dkX6_kindNow 61 rfl) (by decide) ?_
                refine lv_iadd C.1 C.2.1 (dk_at dkX6_kindNow 62 rfl) ?_
                refine lv_topi (fun x130 ex130 => ?_)
                have hf := nm_at ex130 hf
                obtain ⟨r131, hq132, hf⟩ := bd1_at hf
                refine r_roV (As := [.int x130]) (rest := []) C (kX6_byteAt l g a_m st now isKept hearers draft dHearers dWalls toldWinds tape taped pos frm sort value fault wrongAt landed landedIn stepped isThere isAt isNext landSum heardSum allWays ways drawn lanes sizes cells torn before x130 r131 hq132) (cwV0 C (inr13 _ (List.mem_of_getElem? (i := 8) rfl)) mwX6_byteAt hdX6_byteAt ⟨Nat.le_of_ble_eq_true rfl, Nat.le_of_ble_eq_true rfl⟩) hK hP rfl rfl rfl hl.1 rfl (Nat.le_of_ble_eq_true rfl) ⟨Nat.zero_le _, Nat.zero_le _⟩ (dk_at dkX6_kindNow 63 rfl) ?_
                refine lv_bipush (v := 97) C.1 C.2.1 (dk_at dkX6_kindNow 64 rfl) (by decide) ?_
                refine lv_icmp_ne (tgt := 150) C.1 C.2.1 (dk_at dkX6_kindNow 65 rfl) (by decide) (fun c133 => ?_) (fun c133 => ?_)
                · have hf := (if_neg c133).symm.trans hf
                  refine lv_bipush (v := (-4)) C.1 C.2.1 (dk_at dkX6_kindNow 76 rfl) (by decide) ?_
                  cases hf
                  exact fin _ _ _ (dk_at dkX6_kindNow 77 rfl) rfl
                · have hf := (if_pos c133).symm.trans hf
                  refine lv_aload_n C.1 C.2.1 (dk_at dkX6_kindNow 66 rfl) rfl (lv_at hl 0 rfl) ?_
                  refine lv_aload_n C.1 C.2.1 (dk_at dkX6_kindNow 67 rfl) rfl (lv_at hl 0 rfl) ?_
                  refine r_get (v := .int frm) C hK hP (fun w h => List.mem_cons_of_mem _ (inlX6 w h)) 0 rfl rfl 11 (by decide) (List.mem_cons_of_mem _ (inr13 _ (List.mem_of_getElem? (i := 2) rfl))) rfl (dk_at dkX6_kindNow 68 rfl) ?_
                  refine lv_bipush (v := 7) C.1 C.2.1 (dk_at dkX6_kindNow 69 rfl) (by decide) ?_
                  refine lv_iadd C.1 C.2.1 (dk_at dkX6_kindNow 70 rfl) ?_
                  refine lv_topi (fun x134 ex134 => ?_)
                  have hf := nm_at ex134 hf
                  obtain ⟨r135, hq136, hf⟩ := bd1_at hf
                  refine r_roV (As := [.int x134]) (rest := []) C (kX6_byteAt l g a_m st now isKept hearers draft dHearers dWalls toldWinds tape taped pos frm sort value fault wrongAt landed landedIn stepped isThere isAt isNext landSum heardSum allWays ways drawn lanes sizes cells torn before x134 r135 hq136) (cwV0 C (inr13 _ (List.mem_of_getElem? (i := 8) rfl)) mwX6_byteAt hdX6_byteAt ⟨Nat.le_of_ble_eq_true rfl, Nat.le_of_ble_eq_true rfl⟩) hK hP rfl rfl rfl hl.1 rfl (Nat.le_of_ble_eq_true rfl) ⟨Nat.zero_le _, Nat.zero_le _⟩ (dk_at dkX6_kindNow 71 rfl) ?_
                  refine lv_bipush (v := 108) C.1 C.2.1 (dk_at dkX6_kindNow 72 rfl) (by decide) ?_
                  refine lv_icmp_ne (tgt := 150) C.1 C.2.1 (dk_at dkX6_kindNow 73 rfl) (by decide) (fun c137 => ?_) (fun c137 => ?_)
                  · have hf := (if_neg c137).symm.trans hf
                    refine lv_bipush (v := (-4)) C.1 C.2.1 (dk_at dkX6_kindNow 76 rfl) (by decide) ?_
                    cases hf
                    exact fin _ _ _ (dk_at dkX6_kindNow 77 rfl) rfl
                  · have hf := (if_pos c137).symm.trans hf
                    refine lv_iconst (v := 3) C.1 C.2.1 (dk_at dkX6_kindNow 74 rfl) (by decide) ?_
                    refine lv_goto (tgt := 152) C.1 C.2.1 (dk_at dkX6_kindNow 75 rfl) (by decide) ?_
                    cases hf
                    exact fin _ _ _ (dk_at dkX6_kindNow 77 rfl) rfl
          · have hf := (if_neg c123).symm.trans hf
            refine lv_aload_n C.1 C.2.1 (dk_at dkX6_kindNow 37 rfl) rfl (lv_at hl 0 rfl) ?_
            refine lv_bipush (v := 109) C.1 C.2.1 (dk_at dkX6_kindNow 38 rfl) (by decide) ?_
            refine lv_bipush (v := 111) C.1 C.2.1 (dk_at dkX6_kindNow 39 rfl) (by decide) ?_
            refine lv_bipush (v := 110) C.1 C.2.1 (dk_at dkX6_kindNow 40 rfl) (by decide) ?_
            obtain ⟨r138, hq139, hf⟩ := bd1_at hf
            refine r_roV (As := [.int 109, .int 111, .int 110]) (rest := []) C (kX6_ends l g a_m st now isKept hearers draft dHearers dWalls toldWinds tape taped pos frm sort value fault wrongAt landed landedIn stepped isThere isAt isNext landSum heardSum allWays ways drawn lanes sizes cells torn before 109 111 110 r138 hq139) (cwV0 C (inr14 _ (List.mem_of_getElem? (i := 4) rfl)) mwX6_ends hdX6_ends ⟨Nat.le_of_ble_eq_true rfl, Nat.le_of_ble_eq_true rfl⟩) hK hP rfl rfl rfl hl.1 rfl (Nat.le_of_ble_eq_true rfl) ⟨Nat.zero_le _, Nat.zero_le _⟩ (dk_at dkX6_kindNow 41 rfl) ?_
            refine lv_if_eq (tgt := 86) C.1 C.2.1 (dk_at dkX6_kindNow 42 rfl) (by decide) (fun c140 => ?_) (fun c140 => ?_)
            · have hf := (if_pos c140).symm.trans hf
              refine lv_aload_n C.1 C.2.1 (dk_at dkX6_kindNow 45 rfl) rfl (lv_at hl 0 rfl) ?_
              refine lv_bipush (v := 8) C.1 C.2.1 (dk_at dkX6_kindNow 46 rfl) (by decide) ?_
              refine lv_bipush (v := 112) C.1 C.2.1 (dk_at dkX6_kindNow 47 rfl) (by decide) ?_
              refine lv_bipush (v := 114) C.1 C.2.1 (dk_at dkX6_kindNow 48 rfl) (by decide) ?_
              refine lv_bipush (v := 111) C.1 C.2.1 (dk_at dkX6_kindNow 49 rfl) (by decide) ?_
              obtain ⟨r141, hq142, hf⟩ := bd1_at hf
              refine r_roV (As := [.int 8, .int 112, .int 114, .int 111]) (rest := []) C (kX6_is l g a_m st now isKept hearers draft dHearers dWalls toldWinds tape taped pos frm sort value fault wrongAt landed landedIn stepped isThere isAt isNext landSum heardSum allWays ways drawn lanes sizes cells torn before 8 112 114 111 r141 hq142) (cwV0 C (inr14 _ (List.mem_of_getElem? (i := 0) rfl)) mwX6_is hdX6_is ⟨Nat.le_of_ble_eq_true rfl, Nat.le_of_ble_eq_true rfl⟩) hK hP rfl rfl rfl hl.1 rfl (Nat.le_of_ble_eq_true rfl) ⟨Nat.zero_le _, Nat.zero_le _⟩ (dk_at dkX6_kindNow 50 rfl) ?_
              refine lv_if_eq (tgt := 150) C.1 C.2.1 (dk_at dkX6_kindNow 51 rfl) (by decide) (fun c143 => ?_) (fun c143 => ?_)
              · have hf := (if_pos c143).symm.trans hf
                refine lv_bipush (v := (-4)) C.1 C.2.1 (dk_at dkX6_kindNow 76 rfl) (by decide) ?_
                cases hf
                exact fin _ _ _ (dk_at dkX6_kindNow 77 rfl) rfl
              · have hf := (if_neg c143).symm.trans hf
                refine lv_aload_n C.1 C.2.1 (dk_at dkX6_kindNow 52 rfl) rfl (lv_at hl 0 rfl) ?_
                refine lv_bipush (v := 112) C.1 C.2.1 (dk_at dkX6_kindNow 53 rfl) (by decide) ?_
                refine lv_bipush (v := 111) C.1 C.2.1 (dk_at dkX6_kindNow 54 rfl) (by decide) ?_
                refine lv_bipush (v := 115) C.1 C.2.1 (dk_at dkX6_kindNow 55 rfl) (by decide) ?_
                obtain ⟨r144, hq145, hf⟩ := bd1_at hf
                refine r_roV (As := [.int 112, .int 111, .int 115]) (rest := []) C (kX6_ends l g a_m st now isKept hearers draft dHearers dWalls toldWinds tape taped pos frm sort value fault wrongAt landed landedIn stepped isThere isAt isNext landSum heardSum allWays ways drawn lanes sizes cells torn before 112 111 115 r144 hq145) (cwV0 C (inr14 _ (List.mem_of_getElem? (i := 4) rfl)) mwX6_ends hdX6_ends ⟨Nat.le_of_ble_eq_true rfl, Nat.le_of_ble_eq_true rfl⟩) hK hP rfl rfl rfl hl.1 rfl (Nat.le_of_ble_eq_true rfl) ⟨Nat.zero_le _, Nat.zero_le _⟩ (dk_at dkX6_kindNow 56 rfl) ?_
                refine lv_if_eq (tgt := 150) C.1 C.2.1 (dk_at dkX6_kindNow 57 rfl) (by decide) (fun c146 => ?_) (fun c146 => ?_)
                · have hf := (if_pos c146).symm.trans hf
                  refine lv_bipush (v := (-4)) C.1 C.2.1 (dk_at dkX6_kindNow 76 rfl) (by decide) ?_
                  cases hf
                  exact fin _ _ _ (dk_at dkX6_kindNow 77 rfl) rfl
                · have hf := (if_neg c146).symm.trans hf
                  refine lv_aload_n C.1 C.2.1 (dk_at dkX6_kindNow 58 rfl) rfl (lv_at hl 0 rfl) ?_
                  refine lv_aload_n C.1 C.2.1 (dk_at dkX6_kindNow 59 rfl) rfl (lv_at hl 0 rfl) ?_
                  refine r_get (v := .int frm) C hK hP (fun w h => List.mem_cons_of_mem _ (inlX6 w h)) 0 rfl rfl 11 (by decide) (List.mem_cons_of_mem _ (inr13 _ (List.mem_of_getElem? (i := 2) rfl))) rfl (dk_at dkX6_kindNow 60 rfl) ?_
                  refine lv_bipush (v := 6) C.1 C.2.1 (dk_at dkX6_kindNow 61 rfl) (by decide) ?_
                  refine lv_iadd C.1 C.2.1 (dk_at dkX6_kindNow 62 rfl) ?_
                  refine lv_topi (fun x147 ex147 => ?_)
                  have hf := nm_at ex147 hf
                  obtain ⟨r148, hq149, hf⟩ := bd1_at hf
                  refine r_roV (As := [.int x147]) (rest := []) C (kX6_byteAt l g a_m st now isKept hearers draft dHearers dWalls toldWinds tape taped pos frm sort value fault wrongAt landed landedIn stepped isThere isAt isNext landSum heardSum allWays ways drawn lanes sizes cells torn before x147 r148 hq149) (cwV0 C (inr13 _ (List.mem_of_getElem? (i := 8) rfl)) mwX6_byteAt hdX6_byteAt ⟨Nat.le_of_ble_eq_true rfl, Nat.le_of_ble_eq_true rfl⟩) hK hP rfl rfl rfl hl.1 rfl (Nat.le_of_ble_eq_true rfl) ⟨Nat.zero_le _, Nat.zero_le _⟩ (dk_at dkX6_kindNow 63 rfl) ?_
                  refine lv_bipush (v := 97) C.1 C.2.1 (dk_at dkX6_kindNow 64 rfl) (by decide) ?_
                  refine lv_icmp_ne (tgt := 150) C.1 C.2.1 (dk_at dkX6_kindNow 65 rfl) (by decide) (fun c150 => ?_) (fun c150 => ?_)
                  · have hf := (if_neg c150).symm.trans hf
                    refine lv_bipush (v := (-4)) C.1 C.2.1 (dk_at dkX6_kindNow 76 rfl) (by decide) ?_
                    cases hf
                    exact fin _ _ _ (dk_at dkX6_kindNow 77 rfl) rfl
                  · have hf := (if_pos c150).symm.trans hf
                    refine lv_aload_n C.1 C.2.1 (dk_at dkX6_kindNow 66 rfl) rfl (lv_at hl 0 rfl) ?_
                    refine lv_aload_n C.1 C.2.1 (dk_at dkX6_kindNow 67 rfl) rfl (lv_at hl 0 rfl) ?_
                    refine r_get (v := .int frm) C hK hP (fun w h => List.mem_cons_of_mem _ (inlX6 w h)) 0 rfl rfl 11 (by decide) (List.mem_cons_of_mem _ (inr13 _ (List.mem_of_getElem? (i := 2) rfl))) rfl (dk_at dkX6_kindNow 68 rfl) ?_
                    refine lv_bipush (v := 7) C.1 C.2.1 (dk_at dkX6_kindNow 69 rfl) (by decide) ?_
                    refine lv_iadd C.1 C.2.1 (dk_at dkX6_kindNow 70 rfl) ?_
                    refine lv_topi (fun x151 ex151 => ?_)
                    have hf := nm_at ex151 hf
                    obtain ⟨r152, hq153, hf⟩ := bd1_at hf
                    refine r_roV (As := [.int x151]) (rest := []) C (kX6_byteAt l g a_m st now isKept hearers draft dHearers dWalls toldWinds tape taped pos frm sort value fault wrongAt landed landedIn stepped isThere isAt isNext landSum heardSum allWays ways drawn lanes sizes cells torn before x151 r152 hq153) (cwV0 C (inr13 _ (List.mem_of_getElem? (i := 8) rfl)) mwX6_byteAt hdX6_byteAt ⟨Nat.le_of_ble_eq_true rfl, Nat.le_of_ble_eq_true rfl⟩) hK hP rfl rfl rfl hl.1 rfl (Nat.le_of_ble_eq_true rfl) ⟨Nat.zero_le _, Nat.zero_le _⟩ (dk_at dkX6_kindNow 71 rfl) ?_
                    refine lv_bipush (v := 108) C.1 C.2.1 (dk_at dkX6_kindNow 72 rfl) (by decide) ?_
                    refine lv_icmp_ne (tgt := 150) C.1 C.2.1 (dk_at dkX6_kindNow 73 rfl) (by decide) (fun c154 => ?_) (fun c154 => ?_)
                    · have hf := (if_neg c154).symm.trans hf
                      refine lv_bipush (v := (-4)) C.1 C.2.1 (dk_at dkX6_kindNow 76 rfl) (by decide) ?_
                      cases hf
                      exact fin _ _ _ (dk_at dkX6_kindNow 77 rfl) rfl
                    · have hf := (if_pos c154).symm.trans hf
                      refine lv_iconst (v := 3) C.1 C.2.1 (dk_at dkX6_kindNow 74 rfl) (by decide) ?_
                      refine lv_goto (tgt := 152) C.1 C.2.1 (dk_at dkX6_kindNow 75 rfl) (by decide) ?_
                      cases hf
                      exact fin _ _ _ (dk_at dkX6_kindNow 77 rfl) rfl
            · have hf := (if_neg c140).symm.trans hf
              refine lv_iconst (v := 2) C.1 C.2.1 (dk_at dkX6_kindNow 43 rfl) (by decide) ?_
              cases hf
              exact fin _ _ _ (dk_at dkX6_kindNow 44 rfl) rfl
        · have hf := (if_neg c120).symm.trans hf
          refine lv_iconst (v := 1) C.1 C.2.1 (dk_at dkX6_kindNow 28 rfl) (by decide) ?_
          cases hf
          exact fin _ _ _ (dk_at dkX6_kindNow 29 rfl) rfl
    · have hf := (if_neg c80).symm.trans hf
      refine lv_iconst (v := 0) C.1 C.2.1 (dk_at dkX6_kindNow 13 rfl) (by decide) ?_
      cases hf
      exact fin _ _ _ (dk_at dkX6_kindNow 14 rfl) rfl
-- X6.lineNow
abbrev tbX6_lineNow : List (Nat × Instr × Nat) := [(0, .aload_n 0, 1), (1, .iconst 4, 1), (2, .bipush 119, 2), (4, .bipush 97, 2), (6, .bipush 108, 2), (8, .invokevirtual 106, 3), (11, .ifCond .eq 16, 3), (14, .aload_n 0, 1), (15, .bipush 108, 2), (17, .iconst 0, 1), (18, .iconst 0, 1), (19, .invokevirtual 110, 3), (22, .ifCond .eq 5, 3), (25, .iconst 4, 1), (26, .ireturn, 1), (27, .aload_n 0, 1), (28, .iconst 4, 1), (29, .bipush 119, 2), (31, .bipush 105, 2), (33, .bipush 110, 2), (35, .invokevirtual 106, 3), (38, .ifCond .eq 17, 3), (41, .aload_n 0, 1), (42, .bipush 100, 2), (44, .iconst 0, 1), (45, .iconst 0, 1), (46, .invokevirtual 110, 3), (49, .ifCond .eq 6, 3), (52, .bipush 6, 2), (54, .ireturn, 1), (55, .aload_n 0, 1), (56, .bipush 6, 2), (58, .bipush 104, 2), (60, .bipush 101, 2), (62, .bipush 97, 2), (64, .invokevirtual 106, 3), (67, .ifCond .eq 20, 3), (70, .aload_n 0, 1), (71, .bipush 114, 2), (73, .bipush 101, 2), (75, .bipush 114, 2), (77, .invokevirtual 110, 3), (80, .ifCond .eq 7, 3), (83, .iconst 5, 1), (84, .goto 7, 3), (87, .aload_n 0, 1), (88, .invokevirtual 114, 3), (91, .ireturn, 1)]
theorem dkX6_lineNow : dk cX6_lineNow tbX6_lineNow := dk_of (by decide +kernel)
abbrev cdX6_lineNow : Cond := Cond.code yX6_lineNow cX6_lineNow 1 (some .int)
abbrev rmX6_lineNow : Room := { frames := 3, cells := 0, slots := 0, locals := 65 }
theorem mwX6_lineNow : Cond.instanceMethod yX6_lineNow ∈ wsL_law ∧ Cond.selects RX6 yX6_lineNow yX6_lineNow ∈ wsL_law ∧ Cond.initialized RX6 ∈ wsL_law ∧ cdX6_lineNow ∈ wsL_law := ⟨inr13 _ (List.mem_of_getElem? (i := 21) rfl), inr13 _ (List.mem_of_getElem? (i := 22) rfl), inr1 _ (List.mem_of_getElem? (i := 5) rfl), inr13 _ (List.mem_of_getElem? (i := 23) rfl)⟩
theorem hdX6_lineNow : yX6_lineNow.cls = RX6 ∧ yX6_lineNow.cls ≠ "java/lang/invoke/MethodHandle" ∧ yX6_lineNow.cls ≠ "java/lang/invoke/VarHandle" ∧ (parseMethodDescriptor yX6_lineNow.desc).map (fun d => d.parameters.length) = some 0 := by decide +kernel
set_option maxHeartbeats 4000000 in
set_option maxRecDepth 100000 in
theorem kX6_lineNow (l : Launch) (g : Gx) (a_m : Nat → Nat) (st : AI) (now : AI) (isKept : AI) (hearers : Int32) (draft : AI) (dHearers : Int32) (dWalls : Int32) (toldWinds : Int32) (tape : AI) (taped : Int32) (pos : Int32) (frm : Int32) (sort : Int32) (value : Int32) (fault : Int32) (wrongAt : Int32) (landed : AI) (landedIn : AI) (stepped : AI) (isThere : AI) (isAt : AI) (isNext : AI) (landSum : Int64) (heardSum : Int64) (allWays : Int64) (ways : AI) (drawn : AI) (lanes : AI) (sizes : AI) (cells : AI) (torn : Int32) (before : AI) (res : Int32) (hf : fX6_lineNow tape taped pos frm = some res) : Met l yX6_lineNow (cdX6_lineNow :: wsL_law) rmX6_lineNow (va_Pc [.ref (a_m 0)] (RO g (wM g a_m st now isKept hearers draft dHearers dWalls toldWinds tape taped pos frm sort value fault wrongAt landed landedIn stepped isThere isAt isNext landSum heardSum allWays ways drawn lanes sizes cells torn before))) (vp_Si (fun x => x = res)) 0 0 (fun _ => False) := by
  refine Met_roi (cc := cX6_lineNow) (maxL := 1) (by decide) rfl (Nat.le_of_ble_eq_true rfl) ?_
  intro P E Z Mi AR BE ME CO Q C fin hK hP ls hl
  have hl : lv_has ls 1 [(0, .ref (a_m 0))] := hl
  unfold fX6_lineNow at hf
  refine lv_aload_n C.1 C.2.1 (dk_at dkX6_lineNow 0 rfl) rfl (lv_at hl 0 rfl) ?_
  refine lv_iconst (v := 4) C.1 C.2.1 (dk_at dkX6_lineNow 1 rfl) (by decide) ?_
  refine lv_bipush (v := 119) C.1 C.2.1 (dk_at dkX6_lineNow 2 rfl) (by decide) ?_
  refine lv_bipush (v := 97) C.1 C.2.1 (dk_at dkX6_lineNow 3 rfl) (by decide) ?_
  refine lv_bipush (v := 108) C.1 C.2.1 (dk_at dkX6_lineNow 4 rfl) (by decide) ?_
  obtain ⟨r1, hq2, hf⟩ := bd1_at hf
  refine r_roV (As := [.int 4, .int 119, .int 97, .int 108]) (rest := []) C (kX6_is l g a_m st now isKept hearers draft dHearers dWalls toldWinds tape taped pos frm sort value fault wrongAt landed landedIn stepped isThere isAt isNext landSum heardSum allWays ways drawn lanes sizes cells torn before 4 119 97 108 r1 hq2) (cwV0 C (inr14 _ (List.mem_of_getElem? (i := 0) rfl)) mwX6_is hdX6_is ⟨Nat.le_of_ble_eq_true rfl, Nat.le_of_ble_eq_true rfl⟩) hK hP rfl rfl rfl hl.1 rfl (Nat.le_of_ble_eq_true rfl) ⟨Nat.zero_le _, Nat.zero_le _⟩ (dk_at dkX6_lineNow 5 rfl) ?_
  refine lv_if_eq (tgt := 27) C.1 C.2.1 (dk_at dkX6_lineNow 6 rfl) (by decide) (fun c3 => ?_) (fun c3 => ?_)
  · have hf := (if_pos c3).symm.trans hf
    refine lv_aload_n C.1 C.2.1 (dk_at dkX6_lineNow 15 rfl) rfl (lv_at hl 0 rfl) ?_
    refine lv_iconst (v := 4) C.1 C.2.1 (dk_at dkX6_lineNow 16 rfl) (by decide) ?_
    refine lv_bipush (v := 119) C.1 C.2.1 (dk_at dkX6_lineNow 17 rfl) (by decide) ?_
    refine lv_bipush (v := 105) C.1 C.2.1 (dk_at dkX6_lineNow 18 rfl) (by decide) ?_
    refine lv_bipush (v := 110) C.1 C.2.1 (dk_at dkX6_lineNow 19 rfl) (by decide) ?_
    obtain ⟨r4, hq5, hf⟩ := bd1_at hf
    refine r_roV (As := [.int 4, .int 119, .int 105, .int 110]) (rest := []) C (kX6_is l g a_m st now isKept hearers draft dHearers dWalls toldWinds tape taped pos frm sort value fault wrongAt landed landedIn stepped isThere isAt isNext landSum heardSum allWays ways drawn lanes sizes cells torn before 4 119 105 110 r4 hq5) (cwV0 C (inr14 _ (List.mem_of_getElem? (i := 0) rfl)) mwX6_is hdX6_is ⟨Nat.le_of_ble_eq_true rfl, Nat.le_of_ble_eq_true rfl⟩) hK hP rfl rfl rfl hl.1 rfl (Nat.le_of_ble_eq_true rfl) ⟨Nat.zero_le _, Nat.zero_le _⟩ (dk_at dkX6_lineNow 20 rfl) ?_
    refine lv_if_eq (tgt := 55) C.1 C.2.1 (dk_at dkX6_lineNow 21 rfl) (by decide) (fun c6 => ?_) (fun c6 => ?_)
    · have hf := (if_pos c6).symm.trans hf
      refine lv_aload_n C.1 C.2.1 (dk_at dkX6_lineNow 30 rfl) rfl (lv_at hl 0 rfl) ?_
      refine lv_bipush (v := 6) C.1 C.2.1 (dk_at dkX6_lineNow 31 rfl) (by decide) ?_
      refine lv_bipush (v := 104) C.1 C.2.1 (dk_at dkX6_lineNow 32 rfl) (by decide) ?_
      refine lv_bipush (v := 101) C.1 C.2.1 (dk_at dkX6_lineNow 33 rfl) (by decide) ?_
      refine lv_bipush (v := 97) C.1 C.2.1 (dk_at dkX6_lineNow 34 rfl) (by decide) ?_
      obtain ⟨r7, hq8, hf⟩ := bd1_at hf
      refine r_roV (As := [.int 6, .int 104, .int 101, .int 97]) (rest := []) C (kX6_is l g a_m st now isKept hearers draft dHearers dWalls toldWinds tape taped pos frm sort value fault wrongAt landed landedIn stepped isThere isAt isNext landSum heardSum allWays ways drawn lanes sizes cells torn before 6 104 101 97 r7 hq8) (cwV0 C (inr14 _ (List.mem_of_getElem? (i := 0) rfl)) mwX6_is hdX6_is ⟨Nat.le_of_ble_eq_true rfl, Nat.le_of_ble_eq_true rfl⟩) hK hP rfl rfl rfl hl.1 rfl (Nat.le_of_ble_eq_true rfl) ⟨Nat.zero_le _, Nat.zero_le _⟩ (dk_at dkX6_lineNow 35 rfl) ?_
      refine lv_if_eq (tgt := 87) C.1 C.2.1 (dk_at dkX6_lineNow 36 rfl) (by decide) (fun c9 => ?_) (fun c9 => ?_)
      · have hf := (if_pos c9).symm.trans hf
        refine lv_aload_n C.1 C.2.1 (dk_at dkX6_lineNow 45 rfl) rfl (lv_at hl 0 rfl) ?_
        obtain ⟨r10, hq11, hf⟩ := bd1_at hf
        refine r_roV (As := []) (rest := []) C (kX6_kindNow l g a_m st now isKept hearers draft dHearers dWalls toldWinds tape taped pos frm sort value fault wrongAt landed landedIn stepped isThere isAt isNext landSum heardSum allWays ways drawn lanes sizes cells torn before r10 hq11) (cwV0 C (inr14 _ (List.mem_of_getElem? (i := 8) rfl)) mwX6_kindNow hdX6_kindNow ⟨Nat.le_of_ble_eq_true rfl, Nat.le_of_ble_eq_true rfl⟩) hK hP rfl rfl rfl hl.1 rfl (Nat.le_of_ble_eq_true rfl) ⟨Nat.zero_le _, Nat.zero_le _⟩ (dk_at dkX6_lineNow 46 rfl) ?_
        cases hf
        exact fin _ _ _ (dk_at dkX6_lineNow 47 rfl) rfl
      · have hf := (if_neg c9).symm.trans hf
        refine lv_aload_n C.1 C.2.1 (dk_at dkX6_lineNow 37 rfl) rfl (lv_at hl 0 rfl) ?_
        refine lv_bipush (v := 114) C.1 C.2.1 (dk_at dkX6_lineNow 38 rfl) (by decide) ?_
        refine lv_bipush (v := 101) C.1 C.2.1 (dk_at dkX6_lineNow 39 rfl) (by decide) ?_
        refine lv_bipush (v := 114) C.1 C.2.1 (dk_at dkX6_lineNow 40 rfl) (by decide) ?_
        obtain ⟨r12, hq13, hf⟩ := bd1_at hf
        refine r_roV (As := [.int 114, .int 101, .int 114]) (rest := []) C (kX6_ends l g a_m st now isKept hearers draft dHearers dWalls toldWinds tape taped pos frm sort value fault wrongAt landed landedIn stepped isThere isAt isNext landSum heardSum allWays ways drawn lanes sizes cells torn before 114 101 114 r12 hq13) (cwV0 C (inr14 _ (List.mem_of_getElem? (i := 4) rfl)) mwX6_ends hdX6_ends ⟨Nat.le_of_ble_eq_true rfl, Nat.le_of_ble_eq_true rfl⟩) hK hP rfl rfl rfl hl.1 rfl (Nat.le_of_ble_eq_true rfl) ⟨Nat.zero_le _, Nat.zero_le _⟩ (dk_at dkX6_lineNow 41 rfl) ?_
        refine lv_if_eq (tgt := 87) C.1 C.2.1 (dk_at dkX6_lineNow 42 rfl) (by decide) (fun c14 => ?_) (fun c14 => ?_)
        · have hf := (if_pos c14).symm.trans hf
          refine lv_aload_n C.1 C.2.1 (dk_at dkX6_lineNow 45 rfl) rfl (lv_at hl 0 rfl) ?_
          obtain ⟨r15, hq16, hf⟩ := bd1_at hf
          refine r_roV (As := []) (rest := []) C (kX6_kindNow l g a_m st now isKept hearers draft dHearers dWalls toldWinds tape taped pos frm sort value fault wrongAt landed landedIn stepped isThere isAt isNext landSum heardSum allWays ways drawn lanes sizes cells torn before r15 hq16) (cwV0 C (inr14 _ (List.mem_of_getElem? (i := 8) rfl)) mwX6_kindNow hdX6_kindNow ⟨Nat.le_of_ble_eq_true rfl, Nat.le_of_ble_eq_true rfl⟩) hK hP rfl rfl rfl hl.1 rfl (Nat.le_of_ble_eq_true rfl) ⟨Nat.zero_le _, Nat.zero_le _⟩ (dk_at dkX6_lineNow 46 rfl) ?_
          cases hf
          exact fin _ _ _ (dk_at dkX6_lineNow 47 rfl) rfl
        · have hf := (if_neg c14).symm.trans hf
          refine lv_iconst (v := 5) C.1 C.2.1 (dk_at dkX6_lineNow 43 rfl) (by decide) ?_
          refine lv_goto (tgt := 91) C.1 C.2.1 (dk_at dkX6_lineNow 44 rfl) (by decide) ?_
          cases hf
          exact fin _ _ _ (dk_at dkX6_lineNow 47 rfl) rfl
    · have hf := (if_neg c6).symm.trans hf
      refine lv_aload_n C.1 C.2.1 (dk_at dkX6_lineNow 22 rfl) rfl (lv_at hl 0 rfl) ?_
      refine lv_bipush (v := 100) C.1 C.2.1 (dk_at dkX6_lineNow 23 rfl) (by decide) ?_
      refine lv_iconst (v := 0) C.1 C.2.1 (dk_at dkX6_lineNow 24 rfl) (by decide) ?_
      refine lv_iconst (v := 0) C.1 C.2.1 (dk_at dkX6_lineNow 25 rfl) (by decide) ?_
      obtain ⟨r17, hq18, hf⟩ := bd1_at hf
      refine r_roV (As := [.int 100, .int 0, .int 0]) (rest := []) C (kX6_ends l g a_m st now isKept hearers draft dHearers dWalls toldWinds tape taped pos frm sort value fault wrongAt landed landedIn stepped isThere isAt isNext landSum heardSum allWays ways drawn lanes sizes cells torn before 100 0 0 r17 hq18) (cwV0 C (inr14 _ (List.mem_of_getElem? (i := 4) rfl)) mwX6_ends hdX6_ends ⟨Nat.le_of_ble_eq_true rfl, Nat.le_of_ble_eq_true rfl⟩) hK hP rfl rfl rfl hl.1 rfl (Nat.le_of_ble_eq_true rfl) ⟨Nat.zero_le _, Nat.zero_le _⟩ (dk_at dkX6_lineNow 26 rfl) ?_
      refine lv_if_eq (tgt := 55) C.1 C.2.1 (dk_at dkX6_lineNow 27 rfl) (by decide) (fun c19 => ?_) (fun c19 => ?_)
      · have hf := (if_pos c19).symm.trans hf
        refine lv_aload_n C.1 C.2.1 (dk_at dkX6_lineNow 30 rfl) rfl (lv_at hl 0 rfl) ?_
        refine lv_bipush (v := 6) C.1 C.2.1 (dk_at dkX6_lineNow 31 rfl) (by decide) ?_
        refine lv_bipush (v := 104) C.1 C.2.1 (dk_at dkX6_lineNow 32 rfl) (by decide) ?_
        refine lv_bipush (v := 101) C.1 C.2.1 (dk_at dkX6_lineNow 33 rfl) (by decide) ?_
        refine lv_bipush (v := 97) C.1 C.2.1 (dk_at dkX6_lineNow 34 rfl) (by decide) ?_
        obtain ⟨r20, hq21, hf⟩ := bd1_at hf
        refine r_roV (As := [.int 6, .int 104, .int 101, .int 97]) (rest := []) C (kX6_is l g a_m st now isKept hearers draft dHearers dWalls toldWinds tape taped pos frm sort value fault wrongAt landed landedIn stepped isThere isAt isNext landSum heardSum allWays ways drawn lanes sizes cells torn before 6 104 101 97 r20 hq21) (cwV0 C (inr14 _ (List.mem_of_getElem? (i := 0) rfl)) mwX6_is hdX6_is ⟨Nat.le_of_ble_eq_true rfl, Nat.le_of_ble_eq_true rfl⟩) hK hP rfl rfl rfl hl.1 rfl (Nat.le_of_ble_eq_true rfl) ⟨Nat.zero_le _, Nat.zero_le _⟩ (dk_at dkX6_lineNow 35 rfl) ?_
        refine lv_if_eq (tgt := 87) C.1 C.2.1 (dk_at dkX6_lineNow 36 rfl) (by decide) (fun c22 => ?_) (fun c22 => ?_)
        · have hf := (if_pos c22).symm.trans hf
          refine lv_aload_n C.1 C.2.1 (dk_at dkX6_lineNow 45 rfl) rfl (lv_at hl 0 rfl) ?_
          obtain ⟨r23, hq24, hf⟩ := bd1_at hf
          refine r_roV (As := []) (rest := []) C (kX6_kindNow l g a_m st now isKept hearers draft dHearers dWalls toldWinds tape taped pos frm sort value fault wrongAt landed landedIn stepped isThere isAt isNext landSum heardSum allWays ways drawn lanes sizes cells torn before r23 hq24) (cwV0 C (inr14 _ (List.mem_of_getElem? (i := 8) rfl)) mwX6_kindNow hdX6_kindNow ⟨Nat.le_of_ble_eq_true rfl, Nat.le_of_ble_eq_true rfl⟩) hK hP rfl rfl rfl hl.1 rfl (Nat.le_of_ble_eq_true rfl) ⟨Nat.zero_le _, Nat.zero_le _⟩ (dk_at dkX6_lineNow 46 rfl) ?_
          cases hf
          exact fin _ _ _ (dk_at dkX6_lineNow 47 rfl) rfl
        · have hf := (if_neg c22).symm.trans hf
          refine lv_aload_n C.1 C.2.1 (dk_at dkX6_lineNow 37 rfl) rfl (lv_at hl 0 rfl) ?_
          refine lv_bipush (v := 114) C.1 C.2.1 (dk_at dkX6_lineNow 38 rfl) (by decide) ?_
          refine lv_bipush (v := 101) C.1 C.2.1 (dk_at dkX6_lineNow 39 rfl) (by decide) ?_
          refine lv_bipush (v := 114) C.1 C.2.1 (dk_at dkX6_lineNow 40 rfl) (by decide) ?_
          obtain ⟨r25, hq26, hf⟩ := bd1_at hf
          refine r_roV (As := [.int 114, .int 101, .int 114]) (rest := []) C (kX6_ends l g a_m st now isKept hearers draft dHearers dWalls toldWinds tape taped pos frm sort value fault wrongAt landed landedIn stepped isThere isAt isNext landSum heardSum allWays ways drawn lanes sizes cells torn before 114 101 114 r25 hq26) (cwV0 C (inr14 _ (List.mem_of_getElem? (i := 4) rfl)) mwX6_ends hdX6_ends ⟨Nat.le_of_ble_eq_true rfl, Nat.le_of_ble_eq_true rfl⟩) hK hP rfl rfl rfl hl.1 rfl (Nat.le_of_ble_eq_true rfl) ⟨Nat.zero_le _, Nat.zero_le _⟩ (dk_at dkX6_lineNow 41 rfl) ?_
          refine lv_if_eq (tgt := 87) C.1 C.2.1 (dk_at dkX6_lineNow 42 rfl) (by decide) (fun c27 => ?_) (fun c27 => ?_)
          · have hf := (if_pos c27).symm.trans hf
            refine lv_aload_n C.1 C.2.1 (dk_at dkX6_lineNow 45 rfl) rfl (lv_at hl 0 rfl) ?_
            obtain ⟨r28, hq29, hf⟩ := bd1_at hf
            refine r_roV (As := []) (rest := []) C (kX6_kindNow l g a_m st now isKept hearers draft dHearers dWalls toldWinds tape taped pos frm sort value fault wrongAt landed landedIn stepped isThere isAt isNext landSum heardSum allWays ways drawn lanes sizes cells torn before r28 hq29) (cwV0 C (inr14 _ (List.mem_of_getElem? (i := 8) rfl)) mwX6_kindNow hdX6_kindNow ⟨Nat.le_of_ble_eq_true rfl, Nat.le_of_ble_eq_true rfl⟩) hK hP rfl rfl rfl hl.1 rfl (Nat.le_of_ble_eq_true rfl) ⟨Nat.zero_le _, Nat.zero_le _⟩ (dk_at dkX6_lineNow 46 rfl) ?_
            cases hf
            exact fin _ _ _ (dk_at dkX6_lineNow 47 rfl) rfl
          · have hf := (if_neg c27).symm.trans hf
            refine lv_iconst (v := 5) C.1 C.2.1 (dk_at dkX6_lineNow 43 rfl) (by decide) ?_
            refine lv_goto (tgt := 91) C.1 C.2.1 (dk_at dkX6_lineNow 44 rfl) (by decide) ?_
            cases hf
            exact fin _ _ _ (dk_at dkX6_lineNow 47 rfl) rfl
      · have hf := (if_neg c19).symm.trans hf
        refine lv_bipush (v := 6) C.1 C.2.1 (dk_at dkX6_lineNow 28 rfl) (by decide) ?_
        cases hf
        exact fin _ _ _ (dk_at dkX6_lineNow 29 rfl) rfl
  · have hf := (if_neg c3).symm.trans hf
    refine lv_aload_n C.1 C.2.1 (dk_at dkX6_lineNow 7 rfl) rfl (lv_at hl 0 rfl) ?_
    refine lv_bipush (v := 108) C.1 C.2.1 (dk_at dkX6_lineNow 8 rfl) (by decide) ?_
    refine lv_iconst (v := 0) C.1 C.2.1 (dk_at dkX6_lineNow 9 rfl) (by decide) ?_
    refine lv_iconst (v := 0) C.1 C.2.1 (dk_at dkX6_lineNow 10 rfl) (by decide) ?_
    obtain ⟨r30, hq31, hf⟩ := bd1_at hf
    refine r_roV (As := [.int 108, .int 0, .int 0]) (rest := []) C (kX6_ends l g a_m st now isKept hearers draft dHearers dWalls toldWinds tape taped pos frm sort value fault wrongAt landed landedIn stepped isThere isAt isNext landSum heardSum allWays ways drawn lanes sizes cells torn before 108 0 0 r30 hq31) (cwV0 C (inr14 _ (List.mem_of_getElem? (i := 4) rfl)) mwX6_ends hdX6_ends ⟨Nat.le_of_ble_eq_true rfl, Nat.le_of_ble_eq_true rfl⟩) hK hP rfl rfl rfl hl.1 rfl (Nat.le_of_ble_eq_true rfl) ⟨Nat.zero_le _, Nat.zero_le _⟩ (dk_at dkX6_lineNow 11 rfl) ?_
    refine lv_if_eq (tgt := 27) C.1 C.2.1 (dk_at dkX6_lineNow 12 rfl) (by decide) (fun c32 => ?_) (fun c32 => ?_)
    · have hf := (if_pos c32).symm.trans hf
      refine lv_aload_n C.1 C.2.1 (dk_at dkX6_lineNow 15 rfl) rfl (lv_at hl 0 rfl) ?_
      refine lv_iconst (v := 4) C.1 C.2.1 (dk_at dkX6_lineNow 16 rfl) (by decide) ?_
      refine lv_bipush (v := 119) C.1 C.2.1 (dk_at dkX6_lineNow 17 rfl) (by decide) ?_
      refine lv_bipush (v := 105) C.1 C.2.1 (dk_at dkX6_lineNow 18 rfl) (by decide) ?_
      refine lv_bipush (v := 110) C.1 C.2.1 (dk_at dkX6_lineNow 19 rfl) (by decide) ?_
      obtain ⟨r33, hq34, hf⟩ := bd1_at hf
      refine r_roV (As := [.int 4, .int 119, .int 105, .int 110]) (rest := []) C (kX6_is l g a_m st now isKept hearers draft dHearers dWalls toldWinds tape taped pos frm sort value fault wrongAt landed landedIn stepped isThere isAt isNext landSum heardSum allWays ways drawn lanes sizes cells torn before 4 119 105 110 r33 hq34) (cwV0 C (inr14 _ (List.mem_of_getElem? (i := 0) rfl)) mwX6_is hdX6_is ⟨Nat.le_of_ble_eq_true rfl, Nat.le_of_ble_eq_true rfl⟩) hK hP rfl rfl rfl hl.1 rfl (Nat.le_of_ble_eq_true rfl) ⟨Nat.zero_le _, Nat.zero_le _⟩ (dk_at dkX6_lineNow 20 rfl) ?_
      refine lv_if_eq (tgt := 55) C.1 C.2.1 (dk_at dkX6_lineNow 21 rfl) (by decide) (fun c35 => ?_) (fun c35 => ?_)
      · have hf := (if_pos c35).symm.trans hf
        refine lv_aload_n C.1 C.2.1 (dk_at dkX6_lineNow 30 rfl) rfl (lv_at hl 0 rfl) ?_
        refine lv_bipush (v := 6) C.1 C.2.1 (dk_at dkX6_lineNow 31 rfl) (by decide) ?_
        refine lv_bipush (v := 104) C.1 C.2.1 (dk_at dkX6_lineNow 32 rfl) (by decide) ?_
        refine lv_bipush (v := 101) C.1 C.2.1 (dk_at dkX6_lineNow 33 rfl) (by decide) ?_
        refine lv_bipush (v := 97) C.1 C.2.1 (dk_at dkX6_lineNow 34 rfl) (by decide) ?_
        obtain ⟨r36, hq37, hf⟩ := bd1_at hf
        refine r_roV (As := [.int 6, .int 104, .int 101, .int 97]) (rest := []) C (kX6_is l g a_m st now isKept hearers draft dHearers dWalls toldWinds tape taped pos frm sort value fault wrongAt landed landedIn stepped isThere isAt isNext landSum heardSum allWays ways drawn lanes sizes cells torn before 6 104 101 97 r36 hq37) (cwV0 C (inr14 _ (List.mem_of_getElem? (i := 0) rfl)) mwX6_is hdX6_is ⟨Nat.le_of_ble_eq_true rfl, Nat.le_of_ble_eq_true rfl⟩) hK hP rfl rfl rfl hl.1 rfl (Nat.le_of_ble_eq_true rfl) ⟨Nat.zero_le _, Nat.zero_le _⟩ (dk_at dkX6_lineNow 35 rfl) ?_
        refine lv_if_eq (tgt := 87) C.1 C.2.1 (dk_at dkX6_lineNow 36 rfl) (by decide) (fun c38 => ?_) (fun c38 => ?_)
        · have hf := (if_pos c38).symm.trans hf
          refine lv_aload_n C.1 C.2.1 (dk_at dkX6_lineNow 45 rfl) rfl (lv_at hl 0 rfl) ?_
          obtain ⟨r39, hq40, hf⟩ := bd1_at hf
          refine r_roV (As := []) (rest := []) C (kX6_kindNow l g a_m st now isKept hearers draft dHearers dWalls toldWinds tape taped pos frm sort value fault wrongAt landed landedIn stepped isThere isAt isNext landSum heardSum allWays ways drawn lanes sizes cells torn before r39 hq40) (cwV0 C (inr14 _ (List.mem_of_getElem? (i := 8) rfl)) mwX6_kindNow hdX6_kindNow ⟨Nat.le_of_ble_eq_true rfl, Nat.le_of_ble_eq_true rfl⟩) hK hP rfl rfl rfl hl.1 rfl (Nat.le_of_ble_eq_true rfl) ⟨Nat.zero_le _, Nat.zero_le _⟩ (dk_at dkX6_lineNow 46 rfl) ?_
          cases hf
          exact fin _ _ _ (dk_at dkX6_lineNow 47 rfl) rfl
        · have hf := (if_neg c38).symm.trans hf
          refine lv_aload_n C.1 C.2.1 (dk_at dkX6_lineNow 37 rfl) rfl (lv_at hl 0 rfl) ?_
          refine lv_bipush (v := 114) C.1 C.2.1 (dk_at dkX6_lineNow 38 rfl) (by decide) ?_
          refine lv_bipush (v := 101) C.1 C.2.1 (dk_at dkX6_lineNow 39 rfl) (by decide) ?_
          refine lv_bipush (v := 114) C.1 C.2.1 (dk_at dkX6_lineNow 40 rfl) (by decide) ?_
          obtain ⟨r41, hq42, hf⟩ := bd1_at hf
          refine r_roV (As := [.int 114, .int 101, .int 114]) (rest := []) C (kX6_ends l g a_m st now isKept hearers draft dHearers dWalls toldWinds tape taped pos frm sort value fault wrongAt landed landedIn stepped isThere isAt isNext landSum heardSum allWays ways drawn lanes sizes cells torn before 114 101 114 r41 hq42) (cwV0 C (inr14 _ (List.mem_of_getElem? (i := 4) rfl)) mwX6_ends hdX6_ends ⟨Nat.le_of_ble_eq_true rfl, Nat.le_of_ble_eq_true rfl⟩) hK hP rfl rfl rfl hl.1 rfl (Nat.le_of_ble_eq_true rfl) ⟨Nat.zero_le _, Nat.zero_le _⟩ (dk_at dkX6_lineNow 41 rfl) ?_
          refine lv_if_eq (tgt := 87) C.1 C.2.1 (dk_at dkX6_lineNow 42 rfl) (by decide) (fun c43 => ?_) (fun c43 => ?_)
          · have hf := (if_pos c43).symm.trans hf
            refine lv_aload_n C.1 C.2.1 (dk_at dkX6_lineNow 45 rfl) rfl (lv_at hl 0 rfl) ?_
            obtain ⟨r44, hq45, hf⟩ := bd1_at hf
            refine r_roV (As := []) (rest := []) C (kX6_kindNow l g a_m st now isKept hearers draft dHearers dWalls toldWinds tape taped pos frm sort value fault wrongAt landed landedIn stepped isThere isAt isNext landSum heardSum allWays ways drawn lanes sizes cells torn before r44 hq45) (cwV0 C (inr14 _ (List.mem_of_getElem? (i := 8) rfl)) mwX6_kindNow hdX6_kindNow ⟨Nat.le_of_ble_eq_true rfl, Nat.le_of_ble_eq_true rfl⟩) hK hP rfl rfl rfl hl.1 rfl (Nat.le_of_ble_eq_true rfl) ⟨Nat.zero_le _, Nat.zero_le _⟩ (dk_at dkX6_lineNow 46 rfl) ?_
            cases hf
            exact fin _ _ _ (dk_at dkX6_lineNow 47 rfl) rfl
          · have hf := (if_neg c43).symm.trans hf
            refine lv_iconst (v := 5) C.1 C.2.1 (dk_at dkX6_lineNow 43 rfl) (by decide) ?_
            refine lv_goto (tgt := 91) C.1 C.2.1 (dk_at dkX6_lineNow 44 rfl) (by decide) ?_
            cases hf
            exact fin _ _ _ (dk_at dkX6_lineNow 47 rfl) rfl
      · have hf := (if_neg c35).symm.trans hf
        refine lv_aload_n C.1 C.2.1 (dk_at dkX6_lineNow 22 rfl) rfl (lv_at hl 0 rfl) ?_
        refine lv_bipush (v := 100) C.1 C.2.1 (dk_at dkX6_lineNow 23 rfl) (by decide) ?_
        refine lv_iconst (v := 0) C.1 C.2.1 (dk_at dkX6_lineNow 24 rfl) (by decide) ?_
        refine lv_iconst (v := 0) C.1 C.2.1 (dk_at dkX6_lineNow 25 rfl) (by decide) ?_
        obtain ⟨r46, hq47, hf⟩ := bd1_at hf
        refine r_roV (As := [.int 100, .int 0, .int 0]) (rest := []) C (kX6_ends l g a_m st now isKept hearers draft dHearers dWalls toldWinds tape taped pos frm sort value fault wrongAt landed landedIn stepped isThere isAt isNext landSum heardSum allWays ways drawn lanes sizes cells torn before 100 0 0 r46 hq47) (cwV0 C (inr14 _ (List.mem_of_getElem? (i := 4) rfl)) mwX6_ends hdX6_ends ⟨Nat.le_of_ble_eq_true rfl, Nat.le_of_ble_eq_true rfl⟩) hK hP rfl rfl rfl hl.1 rfl (Nat.le_of_ble_eq_true rfl) ⟨Nat.zero_le _, Nat.zero_le _⟩ (dk_at dkX6_lineNow 26 rfl) ?_
        refine lv_if_eq (tgt := 55) C.1 C.2.1 (dk_at dkX6_lineNow 27 rfl) (by decide) (fun c48 => ?_) (fun c48 => ?_)
        · have hf := (if_pos c48).symm.trans hf
          refine lv_aload_n C.1 C.2.1 (dk_at dkX6_lineNow 30 rfl) rfl (lv_at hl 0 rfl) ?_
          refine lv_bipush (v := 6) C.1 C.2.1 (dk_at dkX6_lineNow 31 rfl) (by decide) ?_
          refine lv_bipush (v := 104) C.1 C.2.1 (dk_at dkX6_lineNow 32 rfl) (by decide) ?_
          refine lv_bipush (v := 101) C.1 C.2.1 (dk_at dkX6_lineNow 33 rfl) (by decide) ?_
          refine lv_bipush (v := 97) C.1 C.2.1 (dk_at dkX6_lineNow 34 rfl) (by decide) ?_
          obtain ⟨r49, hq50, hf⟩ := bd1_at hf
          refine r_roV (As := [.int 6, .int 104, .int 101, .int 97]) (rest := []) C (kX6_is l g a_m st now isKept hearers draft dHearers dWalls toldWinds tape taped pos frm sort value fault wrongAt landed landedIn stepped isThere isAt isNext landSum heardSum allWays ways drawn lanes sizes cells torn before 6 104 101 97 r49 hq50) (cwV0 C (inr14 _ (List.mem_of_getElem? (i := 0) rfl)) mwX6_is hdX6_is ⟨Nat.le_of_ble_eq_true rfl, Nat.le_of_ble_eq_true rfl⟩) hK hP rfl rfl rfl hl.1 rfl (Nat.le_of_ble_eq_true rfl) ⟨Nat.zero_le _, Nat.zero_le _⟩ (dk_at dkX6_lineNow 35 rfl) ?_
          refine lv_if_eq (tgt := 87) C.1 C.2.1 (dk_at dkX6_lineNow 36 rfl) (by decide) (fun c51 => ?_) (fun c51 => ?_)
          · have hf := (if_pos c51).symm.trans hf
            refine lv_aload_n C.1 C.2.1 (dk_at dkX6_lineNow 45 rfl) rfl (lv_at hl 0 rfl) ?_
            obtain ⟨r52, hq53, hf⟩ := bd1_at hf
            refine r_roV (As := []) (rest := []) C (kX6_kindNow l g a_m st now isKept hearers draft dHearers dWalls toldWinds tape taped pos frm sort value fault wrongAt landed landedIn stepped isThere isAt isNext landSum heardSum allWays ways drawn lanes sizes cells torn before r52 hq53) (cwV0 C (inr14 _ (List.mem_of_getElem? (i := 8) rfl)) mwX6_kindNow hdX6_kindNow ⟨Nat.le_of_ble_eq_true rfl, Nat.le_of_ble_eq_true rfl⟩) hK hP rfl rfl rfl hl.1 rfl (Nat.le_of_ble_eq_true rfl) ⟨Nat.zero_le _, Nat.zero_le _⟩ (dk_at dkX6_lineNow 46 rfl) ?_
            cases hf
            exact fin _ _ _ (dk_at dkX6_lineNow 47 rfl) rfl
          · have hf := (if_neg c51).symm.trans hf
            refine lv_aload_n C.1 C.2.1 (dk_at dkX6_lineNow 37 rfl) rfl (lv_at hl 0 rfl) ?_
            refine lv_bipush (v := 114) C.1 C.2.1 (dk_at dkX6_lineNow 38 rfl) (by decide) ?_
            refine lv_bipush (v := 101) C.1 C.2.1 (dk_at dkX6_lineNow 39 rfl) (by decide) ?_
            refine lv_bipush (v := 114) C.1 C.2.1 (dk_at dkX6_lineNow 40 rfl) (by decide) ?_
            obtain ⟨r54, hq55, hf⟩ := bd1_at hf
            refine r_roV (As := [.int 114, .int 101, .int 114]) (rest := []) C (kX6_ends l g a_m st now isKept hearers draft dHearers dWalls toldWinds tape taped pos frm sort value fault wrongAt landed landedIn stepped isThere isAt isNext landSum heardSum allWays ways drawn lanes sizes cells torn before 114 101 114 r54 hq55) (cwV0 C (inr14 _ (List.mem_of_getElem? (i := 4) rfl)) mwX6_ends hdX6_ends ⟨Nat.le_of_ble_eq_true rfl, Nat.le_of_ble_eq_true rfl⟩) hK hP rfl rfl rfl hl.1 rfl (Nat.le_of_ble_eq_true rfl) ⟨Nat.zero_le _, Nat.zero_le _⟩ (dk_at dkX6_lineNow 41 rfl) ?_
            refine lv_if_eq (tgt := 87) C.1 C.2.1 (dk_at dkX6_lineNow 42 rfl) (by decide) (fun c56 => ?_) (fun c56 => ?_)
            · have hf := (if_pos c56).symm.trans hf
              refine lv_aload_n C.1 C.2.1 (dk_at dkX6_lineNow 45 rfl) rfl (lv_at hl 0 rfl) ?_
              obtain ⟨r57, hq58, hf⟩ := bd1_at hf
              refine r_roV (As := []) (rest := []) C (kX6_kindNow l g a_m st now isKept hearers draft dHearers dWalls toldWinds tape taped pos frm sort value fault wrongAt landed landedIn stepped isThere isAt isNext landSum heardSum allWays ways drawn lanes sizes cells torn before r57 hq58) (cwV0 C (inr14 _ (List.mem_of_getElem? (i := 8) rfl)) mwX6_kindNow hdX6_kindNow ⟨Nat.le_of_ble_eq_true rfl, Nat.le_of_ble_eq_true rfl⟩) hK hP rfl rfl rfl hl.1 rfl (Nat.le_of_ble_eq_true rfl) ⟨Nat.zero_le _, Nat.zero_le _⟩ (dk_at dkX6_lineNow 46 rfl) ?_
              cases hf
              exact fin _ _ _ (dk_at dkX6_lineNow 47 rfl) rfl
            · have hf := (if_neg c56).symm.trans hf
              refine lv_iconst (v := 5) C.1 C.2.1 (dk_at dkX6_lineNow 43 rfl) (by decide) ?_
              refine lv_goto (tgt := 91) C.1 C.2.1 (dk_at dkX6_lineNow 44 rfl) (by decide) ?_
              cases hf
              exact fin _ _ _ (dk_at dkX6_lineNow 47 rfl) rfl
        · have hf := (if_neg c48).symm.trans hf
          refine lv_bipush (v := 6) C.1 C.2.1 (dk_at dkX6_lineNow 28 rfl) (by decide) ?_
          cases hf
          exact fin _ _ _ (dk_at dkX6_lineNow 29 rfl) rfl
    · have hf := (if_neg c32).symm.trans hf
      refine lv_iconst (v := 4) C.1 C.2.1 (dk_at dkX6_lineNow 13 rfl) (by decide) ?_
      cases hf
      exact fin _ _ _ (dk_at dkX6_lineNow 14 rfl) rfl
-- X6.takes
abbrev tbX6_takes : List (Nat × Instr × Nat) := [(0, .aload_n 0, 1), (1, .getfield 90, 3), (4, .ifCond .le 4, 3), (7, .return_, 1), (8, .aload_n 0, 1), (9, .aload_n 0, 1), (10, .getfield 99, 3), (13, .invokevirtual 102, 3), (16, .bipush 32, 2), (18, .if_icmp .ne 16, 3), (21, .aload_n 0, 1), (22, .dup, 1), (23, .getfield 99, 3), (26, .iconst 1, 1), (27, .iadd, 1), (28, .putfield 99, 3), (31, .goto (-23), 3), (34, .aload_n 0, 1), (35, .aload_n 0, 1), (36, .getfield 99, 3), (39, .putfield 93, 3), (42, .aload_n 0, 1), (43, .aload_n 0, 1), (44, .getfield 99, 3), (47, .invokevirtual 102, 3), (50, .istore_n 1, 1), (51, .iload_n 1, 1), (52, .ifCond .ge 11, 3), (55, .aload_n 0, 1), (56, .iconst 0, 1), (57, .putfield 118, 3), (60, .goto 214, 3), (63, .iload_n 1, 1), (64, .i2l, 1), (65, .ldc2_w 121, 3), (68, .ldc2_w 123, 3), (71, .invokestatic 83, 3), (74, .ifCond .eq 42, 3), (77, .aload_n 0, 1), (78, .iconst 1, 1), (79, .putfield 118, 3), (82, .aload_n 0, 1), (83, .aload_n 0, 1), (84, .getfield 99, 3), (87, .invokevirtual 102, 3), (90, .i2l, 1), (91, .ldc2_w 121, 3), (94, .ldc2_w 123, 3), (97, .invokestatic 83, 3), (100, .ifCond .eq 174, 3), (103, .aload_n 0, 1), (104, .dup, 1), (105, .getfield 99, 3), (108, .iconst 1, 1), (109, .iadd, 1), (110, .putfield 99, 3), (113, .goto (-31), 3), (116, .iload_n 1, 1), (117, .i2l, 1), (118, .ldc2_w 125, 3), (121, .ldc2_w 127, 3), (124, .invokestatic 83, 3), (127, .ifCond .eq 116, 3), (130, .aload_n 0, 1), (131, .iconst 2, 1), (132, .putfield 118, 3), (135, .aload_n 0, 1), (136, .iconst 0, 1), (137, .putfield 129, 3), (140, .aload_n 0, 1), (141, .aload_n 0, 1), (142, .getfield 99, 3), (145, .invokevirtual 102, 3), (148, .i2l, 1), (149, .ldc2_w 125, 3), (152, .ldc2_w 127, 3), (155, .invokestatic 83, 3), (158, .ifCond .eq 59, 3), (161, .aload_n 0, 1), (162, .aload_n 0, 1), (163, .getfield 99, 3), (166, .aload_n 0, 1), (167, .getfield 93, 3), (170, .isub, 1), (171, .iconst 2, 1), (172, .if_icmp .ge 25, 3), (175, .bipush 10, 2), (177, .aload_n 0, 1), (178, .getfield 129, 3), (181, .imul, 1), (182, .aload_n 0, 1), (183, .aload_n 0, 1), (184, .getfield 99, 3), (187, .invokevirtual 102, 3), (190, .iadd, 1), (191, .bipush 48, 2), (193, .isub, 1), (194, .goto 7, 3), (197, .aload_n 0, 1), (198, .getfield 129, 3), (201, .putfield 129, 3), (204, .aload_n 0, 1), (205, .dup, 1), (206, .getfield 99, 3), (209, .iconst 1, 1), (210, .iadd, 1), (211, .putfield 99, 3), (214, .goto (-74), 3), (217, .aload_n 0, 1), (218, .aload_n 0, 1), (219, .getfield 99, 3), (222, .aload_n 0, 1), (223, .getfield 93, 3), (226, .isub, 1), (227, .iconst 2, 1), (228, .if_icmp .gt 7, 3), (231, .iconst 1, 1), (232, .goto 4, 3), (235, .iconst 0, 1), (236, .iconst 1, 1), (237, .invokevirtual 132, 3), (240, .goto 34, 3), (243, .aload_n 0, 1), (244, .iconst 3, 1), (245, .putfield 118, 3), (248, .aload_n 0, 1), (249, .iload_n 1, 1), (250, .bipush 59, 2), (252, .if_icmp .ne 7, 3), (255, .iconst 1, 1), (256, .goto 4, 3), (259, .iconst 0, 1), (260, .iconst 1, 1), (261, .invokevirtual 132, 3), (264, .aload_n 0, 1), (265, .dup, 1), (266, .getfield 99, 3), (269, .iconst 1, 1), (270, .iadd, 1), (271, .putfield 99, 3), (274, .return_, 1)]
theorem dkX6_takes : dk cX6_takes tbX6_takes := dk_of (by decide +kernel)
abbrev cdX6_takes : Cond := Cond.code yX6_takes cX6_takes 2 none
abbrev rmX6_takes : Room := { frames := 1, cells := 0, slots := 0, locals := 25 }
theorem mwX6_takes : Cond.instanceMethod yX6_takes ∈ wsL_law ∧ Cond.selects RX6 yX6_takes yX6_takes ∈ wsL_law ∧ Cond.initialized RX6 ∈ wsL_law ∧ cdX6_takes ∈ wsL_law := ⟨inr12 _ (List.mem_of_getElem? (i := 23) rfl), inr13 _ (List.mem_of_getElem? (i := 0) rfl), inr1 _ (List.mem_of_getElem? (i := 5) rfl), inr13 _ (List.mem_of_getElem? (i := 1) rfl)⟩
theorem hdX6_takes : yX6_takes.cls = RX6 ∧ yX6_takes.cls ≠ "java/lang/invoke/MethodHandle" ∧ yX6_takes.cls ≠ "java/lang/invoke/VarHandle" ∧ (parseMethodDescriptor yX6_takes.desc).map (fun d => d.parameters.length) = some 0 := by decide +kernel
set_option maxHeartbeats 4000000 in
set_option maxRecDepth 100000 in
theorem kX6_takes (l : Launch) (g : Gx) (sz : Nat) (a_m : Nat → Nat) (st : AI) (now : AI) (isKept : AI) (hearers : Int32) (draft : AI) (dHearers : Int32) (dWalls : Int32) (toldWinds : Int32) (tape : AI) (taped : Int32) (pos : Int32) (frm : Int32) (sort : Int32) (value : Int32) (fault : Int32) (wrongAt : Int32) (landed : AI) (landedIn : AI) (stepped : AI) (isThere : AI) (isAt : AI) (isNext : AI) (landSum : Int64) (heardSum : Int64) (allWays : Int64) (ways : AI) (drawn : AI) (lanes : AI) (sizes : AI) (cells : AI) (torn : Int32) (before : AI) (pos_o : Int32) (frm_o : Int32) (sort_o : Int32) (value_o : Int32) (fault_o : Int32) (wrongAt_o : Int32) (hf : fX6_takes tape taped pos frm sort value fault wrongAt = some (pos_o, frm_o, sort_o, value_o, fault_o, wrongAt_o)) : Met l yX6_takes (cdX6_takes :: wsL_law) rmX6_takes (va_Pc [.ref (a_m 0)] (RWp g sz (wM g a_m st now isKept hearers draft dHearers dWalls toldWinds tape taped pos frm sort value fault wrongAt landed landedIn stepped isThere isAt isNext landSum heardSum allWays ways drawn lanes sizes cells torn before))) (va_Qv (fun _ : Unit => True) (fun _ => RWq g (va_A (wM g a_m st now isKept hearers draft dHearers dWalls toldWinds tape taped pos frm sort value fault wrongAt landed landedIn stepped isThere isAt isNext landSum heardSum allWays ways drawn lanes sizes cells torn before) sz) (wM g a_m st now isKept hearers draft dHearers dWalls toldWinds tape taped pos_o frm_o sort_o value_o fault_o wrongAt_o landed landedIn stepped isThere isAt isNext landSum heardSum allWays ways drawn lanes sizes cells torn before)) (va_A (wM g a_m st now isKept hearers draft dHearers dWalls toldWinds tape taped pos frm sort value fault wrongAt landed landedIn stepped isThere isAt isNext landSum heardSum allWays ways drawn lanes sizes cells torn before) sz)) 0 0 (va_A (wM g a_m st now isKept hearers draft dHearers dWalls toldWinds tape taped pos frm sort value fault wrongAt landed landedIn stepped isThere isAt isNext landSum heardSum allWays ways drawn lanes sizes cells torn before) sz) := by
  refine Met_rwv (cc := cX6_takes) (maxL := 2) (by decide) rfl (Nat.le_of_ble_eq_true rfl) ?_
  intro P E Z Mi AR BE ME CO A Q C hK hA fin w ls hl
  have hl : lv_has ls 2 [(0, .ref (a_m 0))] := hl
  unfold fX6_takes at hf
  refine lv_aload_n C.1 C.2.1 (dk_at dkX6_takes 0 rfl) rfl (lv_at hl 0 rfl) ?_
  refine r_get (v := .int fault) C hK w.1 (fun w h => List.mem_cons_of_mem _ (inlX6 w h)) 0 rfl rfl 14 (by decide) (List.mem_cons_of_mem _ (inr12 _ (List.mem_of_getElem? (i := 18) rfl))) rfl (dk_at dkX6_takes 1 rfl) ?_
  refine lv_if_le (tgt := 8) C.1 C.2.1 (dk_at dkX6_takes 2 rfl) (by decide) (fun c1 => ?_) (fun c1 => ?_)
  · have hf := (if_pos c1).symm.trans hf
    have L3 : ∀ (K : Int32 → Option (Int32 × Int32 × Int32 × Int32 × Int32 × Int32)), (∀ (pos_2 : Int32) (H : Heap) (locs : List Loc) (ls : Array Slot), Wd g A Z.heap (wM g a_m st now isKept hearers draft dHearers dWalls toldWinds tape taped pos_2 frm sort value fault wrongAt landed landedIn stepped isThere isAt isNext landSum heardSum allWays ways drawn lanes sizes cells torn before) H locs → lv_has ls 2 [(0, .ref (a_m 0))] → K pos_2 = some (pos_o, frm_o, sort_o, value_o, fault_o, wrongAt_o) → W P l E rmX6_takes Z Mi AR BE ME CO H locs 0 0 Q (F0 Mi 34 ls [])) → ∀ (n : Nat), ∀ (pos_2 : Int32) (H : Heap) (locs : List Loc) (ls : Array Slot), Wd g A Z.heap (wM g a_m st now isKept hearers draft dHearers dWalls toldWinds tape taped pos_2 frm sort value fault wrongAt landed landedIn stepped isThere isAt isNext landSum heardSum allWays ways drawn lanes sizes cells torn before) H locs → lv_has ls 2 [(0, .ref (a_m 0))] → fX6_takes_L8 tape taped K n pos_2 = some (pos_o, frm_o, sort_o, value_o, fault_o, wrongAt_o) → W P l E rmX6_takes Z Mi AR BE ME CO H locs 0 0 Q (F0 Mi 8 ls []) := by
      intro K hKe n
      induction n with
      | zero => intro pos_2 H locs ls w hl hf; cases hf
      | succ n ih =>
        intro pos_2 H locs ls w hl hf
        rw [fX6_takes_L8] at hf
        refine lv_aload_n C.1 C.2.1 (dk_at dkX6_takes 4 rfl) rfl (lv_at hl 0 rfl) ?_
        refine lv_aload_n C.1 C.2.1 (dk_at dkX6_takes 5 rfl) rfl (lv_at hl 0 rfl) ?_
        refine r_get (v := .int pos_2) C hK w.1 (fun w h => List.mem_cons_of_mem _ (inlX6 w h)) 0 rfl rfl 10 (by decide) (List.mem_cons_of_mem _ (inr12 _ (List.mem_of_getElem? (i := 19) rfl))) rfl (dk_at dkX6_takes 6 rfl) ?_
        obtain ⟨r4, hq5, hf⟩ := bd1_at hf
        refine r_roV (As := [.int pos_2]) (rest := []) C (kX6_byteAt l g a_m st now isKept hearers draft dHearers dWalls toldWinds tape taped pos_2 frm sort value fault wrongAt landed landedIn stepped isThere isAt isNext landSum heardSum allWays ways drawn lanes sizes cells torn before pos_2 r4 hq5) (cwV0 C (inr13 _ (List.mem_of_getElem? (i := 8) rfl)) mwX6_byteAt hdX6_byteAt ⟨Nat.le_of_ble_eq_true rfl, Nat.le_of_ble_eq_true rfl⟩) hK w.1 rfl rfl rfl hl.1 rfl (Nat.le_of_ble_eq_true rfl) ⟨Nat.zero_le _, Nat.zero_le _⟩ (dk_at dkX6_takes 7 rfl) ?_
        refine lv_bipush (v := 32) C.1 C.2.1 (dk_at dkX6_takes 8 rfl) (by decide) ?_
        refine lv_icmp_ne (tgt := 34) C.1 C.2.1 (dk_at dkX6_takes 9 rfl) (by decide) (fun c6 => ?_) (fun c6 => ?_)
        · have hf := (if_neg c6).symm.trans hf
          exact hKe pos_2 _ _ _ w (lv_sub hl [0] rfl) hf
        · have hf := (if_pos c6).symm.trans hf
          refine lv_aload_n C.1 C.2.1 (dk_at dkX6_takes 10 rfl) rfl (lv_at hl 0 rfl) ?_
          refine lv_dup C.1 C.2.1 (dk_at dkX6_takes 11 rfl) rfl ?_
          refine r_get (v := .int pos_2) C hK w.1 (fun w h => List.mem_cons_of_mem _ (inlX6 w h)) 0 rfl rfl 10 (by decide) (List.mem_cons_of_mem _ (inr12 _ (List.mem_of_getElem? (i := 19) rfl))) rfl (dk_at dkX6_takes 12 rfl) ?_
          refine lv_iconst (v := 1) C.1 C.2.1 (dk_at dkX6_takes 13 rfl) (by decide) ?_
          refine lv_iadd C.1 C.2.1 (dk_at dkX6_takes 14 rfl) ?_
          refine lv_topi (fun x7 ex7 => ?_)
          have hf := nm_at ex7 hf
          refine r_put (v := .int x7) C hK w (fun w h => List.mem_cons_of_mem _ (inlX6 w h)) tyX6 tyX6_ok nmX6 0 rfl rfl 10 (by decide) (List.mem_cons_of_mem _ (inr12 _ (List.mem_of_getElem? (i := 19) rfl))) rfl rfl rfl (Nat.le_of_ble_eq_true rfl) (dk_at dkX6_takes 15 rfl) (fun H locs w => ?_)
          have w : Wd g A Z.heap (wM g a_m st now isKept hearers draft dHearers dWalls toldWinds tape taped x7 frm sort value fault wrongAt landed landedIn stepped isThere isAt isNext landSum heardSum allWays ways drawn lanes sizes cells torn before) H locs := w
          refine lv_goto (tgt := 8) C.1 C.2.1 (dk_at dkX6_takes 16 rfl) (by decide) ?_
          exact ih x7 _ _ _ w (lv_sub hl [0] rfl) hf
    refine L3 _ ?_ 4096 pos _ _ _ w (lv_sub hl [0] rfl) hf
    clear hf
    intro pos_2 H locs ls w hl hf
    refine lv_aload_n C.1 C.2.1 (dk_at dkX6_takes 17 rfl) rfl (lv_at hl 0 rfl) ?_
    refine lv_aload_n C.1 C.2.1 (dk_at dkX6_takes 18 rfl) rfl (lv_at hl 0 rfl) ?_
    refine r_get (v := .int pos_2) C hK w.1 (fun w h => List.mem_cons_of_mem _ (inlX6 w h)) 0 rfl rfl 10 (by decide) (List.mem_cons_of_mem _ (inr12 _ (List.mem_of_getElem? (i := 19) rfl))) rfl (dk_at dkX6_takes 19 rfl) ?_
    refine r_put (v := .int pos_2) C hK w (fun w h => List.mem_cons_of_mem _ (inlX6 w h)) tyX6 tyX6_ok nmX6 0 rfl rfl 11 (by decide) (List.mem_cons_of_mem _ (inr13 _ (List.mem_of_getElem? (i := 2) rfl))) rfl rfl rfl (Nat.le_of_ble_eq_true rfl) (dk_at dkX6_takes 20 rfl) (fun H locs w => ?_)
    have w : Wd g A Z.heap (wM g a_m st now isKept hearers draft dHearers dWalls toldWinds tape taped pos_2 pos_2 sort value fault wrongAt landed landedIn stepped isThere isAt isNext landSum heardSum allWays ways drawn lanes sizes cells torn before) H locs := w
    refine lv_aload_n C.1 C.2.1 (dk_at dkX6_takes 21 rfl) rfl (lv_at hl 0 rfl) ?_
    refine lv_aload_n C.1 C.2.1 (dk_at dkX6_takes 22 rfl) rfl (lv_at hl 0 rfl) ?_
    refine r_get (v := .int pos_2) C hK w.1 (fun w h => List.mem_cons_of_mem _ (inlX6 w h)) 0 rfl rfl 10 (by decide) (List.mem_cons_of_mem _ (inr12 _ (List.mem_of_getElem? (i := 19) rfl))) rfl (dk_at dkX6_takes 23 rfl) ?_
    obtain ⟨r8, hq9, hf⟩ := bd1_at hf
    refine r_roV (As := [.int pos_2]) (rest := []) C (kX6_byteAt l g a_m st now isKept hearers draft dHearers dWalls toldWinds tape taped pos_2 pos_2 sort value fault wrongAt landed landedIn stepped isThere isAt isNext landSum heardSum allWays ways drawn lanes sizes cells torn before pos_2 r8 hq9) (cwV0 C (inr13 _ (List.mem_of_getElem? (i := 8) rfl)) mwX6_byteAt hdX6_byteAt ⟨Nat.le_of_ble_eq_true rfl, Nat.le_of_ble_eq_true rfl⟩) hK w.1 rfl rfl rfl hl.1 rfl (Nat.le_of_ble_eq_true rfl) ⟨Nat.zero_le _, Nat.zero_le _⟩ (dk_at dkX6_takes 24 rfl) ?_
    refine lv_istore_n (lv' := [(1, .int r8), (0, .ref (a_m 0))]) C.1 C.2.1 (dk_at dkX6_takes 25 rfl) rfl hl (by decide) rfl (fun ls hl => ?_)
    refine lv_iload_n C.1 C.2.1 (dk_at dkX6_takes 26 rfl) rfl (lv_at hl 0 rfl) ?_
    refine lv_if_ge (tgt := 63) C.1 C.2.1 (dk_at dkX6_takes 27 rfl) (by decide) (fun c10 => ?_) (fun c10 => ?_)
    · have hf := (if_pos c10).symm.trans hf
      refine lv_iload_n C.1 C.2.1 (dk_at dkX6_takes 32 rfl) rfl (lv_at hl 0 rfl) ?_
      refine lv_i2l C.1 C.2.1 (dk_at dkX6_takes 33 rfl) rfl ?_
      refine lv_topl (fun x11 ex11 => ?_)
      have hf := nm_at ex11 hf
      refine lv_ldc2 (v := 97) C.1 C.2.1 C.2.2.2.1 (C.2.2.2.2 _ (List.mem_cons_of_mem _ (inr13 _ (List.mem_of_getElem? (i := 3) rfl)))) (dk_at dkX6_takes 34 rfl) ?_
      refine lv_ldc2 (v := 122) C.1 C.2.1 C.2.2.2.1 (C.2.2.2.2 _ (List.mem_cons_of_mem _ (inr13 _ (List.mem_of_getElem? (i := 4) rfl)))) (dk_at dkX6_takes 35 rfl) ?_
      obtain ⟨r12, hq13, hf⟩ := bd1_at hf
      refine r_st (As := [.long x11, .long 97, .long 122]) (rest := []) C (kX6_in l x11 97 122 r12 hq13) (cwS0 C (inr5 _ (List.mem_of_getElem? (i := 21) rfl)) mwX6_in hdX6_in ⟨Nat.le_of_ble_eq_true rfl, Nat.le_of_ble_eq_true rfl⟩) rfl hl.1 rfl (Nat.le_of_ble_eq_true rfl) ⟨Nat.zero_le _, Nat.zero_le _⟩ (dk_at dkX6_takes 36 rfl) ?_
      refine lv_if_eq (tgt := 116) C.1 C.2.1 (dk_at dkX6_takes 37 rfl) (by decide) (fun c14 => ?_) (fun c14 => ?_)
      · have hf := (if_pos c14).symm.trans hf
        refine lv_iload_n C.1 C.2.1 (dk_at dkX6_takes 57 rfl) rfl (lv_at hl 0 rfl) ?_
        refine lv_i2l C.1 C.2.1 (dk_at dkX6_takes 58 rfl) rfl ?_
        refine lv_topl (fun x15 ex15 => ?_)
        have hf := nm_at ex15 hf
        refine lv_ldc2 (v := 48) C.1 C.2.1 C.2.2.2.1 (C.2.2.2.2 _ (List.mem_cons_of_mem _ (inr13 _ (List.mem_of_getElem? (i := 5) rfl)))) (dk_at dkX6_takes 59 rfl) ?_
        refine lv_ldc2 (v := 57) C.1 C.2.1 C.2.2.2.1 (C.2.2.2.2 _ (List.mem_cons_of_mem _ (inr13 _ (List.mem_of_getElem? (i := 6) rfl)))) (dk_at dkX6_takes 60 rfl) ?_
        obtain ⟨r16, hq17, hf⟩ := bd1_at hf
        refine r_st (As := [.long x15, .long 48, .long 57]) (rest := []) C (kX6_in l x15 48 57 r16 hq17) (cwS0 C (inr5 _ (List.mem_of_getElem? (i := 21) rfl)) mwX6_in hdX6_in ⟨Nat.le_of_ble_eq_true rfl, Nat.le_of_ble_eq_true rfl⟩) rfl hl.1 rfl (Nat.le_of_ble_eq_true rfl) ⟨Nat.zero_le _, Nat.zero_le _⟩ (dk_at dkX6_takes 61 rfl) ?_
        refine lv_if_eq (tgt := 243) C.1 C.2.1 (dk_at dkX6_takes 62 rfl) (by decide) (fun c18 => ?_) (fun c18 => ?_)
        · have hf := (if_pos c18).symm.trans hf
          refine lv_aload_n C.1 C.2.1 (dk_at dkX6_takes 122 rfl) rfl (lv_at hl 1 rfl) ?_
          refine lv_iconst (v := 3) C.1 C.2.1 (dk_at dkX6_takes 123 rfl) (by decide) ?_
          refine r_put (v := .int 3) C hK w (fun w h => List.mem_cons_of_mem _ (inlX6 w h)) tyX6 tyX6_ok nmX6 0 rfl rfl 12 (by decide) (List.mem_cons_of_mem _ (inr12 _ (List.mem_of_getElem? (i := 20) rfl))) rfl rfl rfl (Nat.le_of_ble_eq_true rfl) (dk_at dkX6_takes 124 rfl) (fun H locs w => ?_)
          have w : Wd g A Z.heap (wM g a_m st now isKept hearers draft dHearers dWalls toldWinds tape taped pos_2 pos_2 3 value fault wrongAt landed landedIn stepped isThere isAt isNext landSum heardSum allWays ways drawn lanes sizes cells torn before) H locs := w
          refine lv_aload_n C.1 C.2.1 (dk_at dkX6_takes 125 rfl) rfl (lv_at hl 1 rfl) ?_
          refine lv_iload_n C.1 C.2.1 (dk_at dkX6_takes 126 rfl) rfl (lv_at hl 0 rfl) ?_
          refine lv_bipush (v := 59) C.1 C.2.1 (dk_at dkX6_takes 127 rfl) (by decide) ?_
          obtain ⟨y19, hq20, hf⟩ := bd1_at hf
          have J21 : ∀ (H : Heap) (locs : List Loc) (ls : Array Slot), Wd g A Z.heap (wM g a_m st now isKept hearers draft dHearers dWalls toldWinds tape taped pos_2 pos_2 3 value fault wrongAt landed landedIn stepped isThere isAt isNext landSum heardSum allWays ways drawn lanes sizes cells torn before) H locs → lv_has ls 2 [(0, .ref (a_m 0))] → W P l E rmX6_takes Z Mi AR BE ME CO H locs 0 0 Q (F0 Mi 260 ls [.int y19, .ref (a_m 0)]) := by
            intro H locs ls w hl
            refine lv_iconst (v := 1) C.1 C.2.1 (dk_at dkX6_takes 132 rfl) (by decide) ?_
            obtain ⟨fault_22, wrongAt_23, hq24, hf⟩ := bd2_at hf
            refine r_rwv (As := [.int y19, .int 1]) (rest := []) (wr := []) (ws' := wM g a_m st now isKept hearers draft dHearers dWalls toldWinds tape taped pos_2 pos_2 3 value fault_22 wrongAt_23 landed landedIn stepped isThere isAt isNext landSum heardSum allWays ways drawn lanes sizes cells torn before) C (kX6_needs l g _ a_m st now isKept hearers draft dHearers dWalls toldWinds tape taped pos_2 pos_2 3 value fault wrongAt landed landedIn stepped isThere isAt isNext landSum heardSum allWays ways drawn lanes sizes cells torn before y19 1 fault_22 wrongAt_23 hq24) (cwV0 C (inr13 _ (List.mem_of_getElem? (i := 12) rfl)) mwX6_needs hdX6_needs ⟨Nat.le_of_ble_eq_true rfl, Nat.le_of_ble_eq_true rfl⟩) hK w hA [0, 1, 2, 3, 4, 5, 6, 7, 8, 9, 10, 11, 12, 13, 14, 15, 16, 17] [] [0, 1, 2, 3, 4, 5, 6, 7, 8, 9, 10, 11, 12, 13, 14, 15, 16, 17] (by decide) rfl rfl (by decide) (by decide) rfl (by decide) rfl rfl rfl hl.1 rfl (Nat.le_of_ble_eq_true rfl) ⟨Nat.zero_le _, Nat.zero_le _⟩ (dk_at dkX6_takes 133 rfl) (fun H locs w => ?_)
            refine lv_aload_n C.1 C.2.1 (dk_at dkX6_takes 134 rfl) rfl (lv_at hl 0 rfl) ?_
            refine lv_dup C.1 C.2.1 (dk_at dkX6_takes 135 rfl) rfl ?_
            refine r_get (v := .int pos_2) C hK w.1 (fun w h => List.mem_cons_of_mem _ (inlX6 w h)) 0 rfl rfl 10 (by decide) (List.mem_cons_of_mem _ (inr12 _ (List.mem_of_getElem? (i := 19) rfl))) rfl (dk_at dkX6_takes 136 rfl) ?_
            refine lv_iconst (v := 1) C.1 C.2.1 (dk_at dkX6_takes 137 rfl) (by decide) ?_
            refine lv_iadd C.1 C.2.1 (dk_at dkX6_takes 138 rfl) ?_
            refine lv_topi (fun x25 ex25 => ?_)
            have hf := nm_at ex25 hf
            refine r_put (v := .int x25) C hK w (fun w h => List.mem_cons_of_mem _ (inlX6 w h)) tyX6 tyX6_ok nmX6 0 rfl rfl 10 (by decide) (List.mem_cons_of_mem _ (inr12 _ (List.mem_of_getElem? (i := 19) rfl))) rfl rfl rfl (Nat.le_of_ble_eq_true rfl) (dk_at dkX6_takes 139 rfl) (fun H locs w => ?_)
            have w : Wd g A Z.heap (wM g a_m st now isKept hearers draft dHearers dWalls toldWinds tape taped x25 pos_2 3 value fault_22 wrongAt_23 landed landedIn stepped isThere isAt isNext landSum heardSum allWays ways drawn lanes sizes cells torn before) H locs := w
            cases hf
            exact fin _ _ _ _ (dk_at dkX6_takes 140 rfl) w
          clear hf
          have hf := hq20
          refine lv_icmp_ne (tgt := 259) C.1 C.2.1 (dk_at dkX6_takes 128 rfl) (by decide) (fun c26 => ?_) (fun c26 => ?_)
          · have hf := (if_neg c26).symm.trans hf
            refine lv_iconst (v := 0) C.1 C.2.1 (dk_at dkX6_takes 131 rfl) (by decide) ?_
            cases hf
            exact J21 _ _ _ w (lv_sub hl [1] rfl)
          · have hf := (if_pos c26).symm.trans hf
            refine lv_iconst (v := 1) C.1 C.2.1 (dk_at dkX6_takes 129 rfl) (by decide) ?_
            refine lv_goto (tgt := 260) C.1 C.2.1 (dk_at dkX6_takes 130 rfl) (by decide) ?_
            cases hf
            exact J21 _ _ _ w (lv_sub hl [1] rfl)
        · have hf := (if_neg c18).symm.trans hf
          refine lv_aload_n C.1 C.2.1 (dk_at dkX6_takes 63 rfl) rfl (lv_at hl 1 rfl) ?_
          refine lv_iconst (v := 2) C.1 C.2.1 (dk_at dkX6_takes 64 rfl) (by decide) ?_
          refine r_put (v := .int 2) C hK w (fun w h => List.mem_cons_of_mem _ (inlX6 w h)) tyX6 tyX6_ok nmX6 0 rfl rfl 12 (by decide) (List.mem_cons_of_mem _ (inr12 _ (List.mem_of_getElem? (i := 20) rfl))) rfl rfl rfl (Nat.le_of_ble_eq_true rfl) (dk_at dkX6_takes 65 rfl) (fun H locs w => ?_)
          have w : Wd g A Z.heap (wM g a_m st now isKept hearers draft dHearers dWalls toldWinds tape taped pos_2 pos_2 2 value fault wrongAt landed landedIn stepped isThere isAt isNext landSum heardSum allWays ways drawn lanes sizes cells torn before) H locs := w
          refine lv_aload_n C.1 C.2.1 (dk_at dkX6_takes 66 rfl) rfl (lv_at hl 1 rfl) ?_
          refine lv_iconst (v := 0) C.1 C.2.1 (dk_at dkX6_takes 67 rfl) (by decide) ?_
          refine r_put (v := .int 0) C hK w (fun w h => List.mem_cons_of_mem _ (inlX6 w h)) tyX6 tyX6_ok nmX6 0 rfl rfl 13 (by decide) (List.mem_cons_of_mem _ (inr13 _ (List.mem_of_getElem? (i := 7) rfl))) rfl rfl rfl (Nat.le_of_ble_eq_true rfl) (dk_at dkX6_takes 68 rfl) (fun H locs w => ?_)
          have w : Wd g A Z.heap (wM g a_m st now isKept hearers draft dHearers dWalls toldWinds tape taped pos_2 pos_2 2 0 fault wrongAt landed landedIn stepped isThere isAt isNext landSum heardSum allWays ways drawn lanes sizes cells torn before) H locs := w
          have L29 : ∀ (K : Int32 → Int32 → Option (Int32 × Int32 × Int32 × Int32 × Int32 × Int32)), (∀ (pos_27 : Int32) (value_28 : Int32) (H : Heap) (locs : List Loc) (ls : Array Slot), Wd g A Z.heap (wM g a_m st now isKept hearers draft dHearers dWalls toldWinds tape taped pos_27 pos_2 2 value_28 fault wrongAt landed landedIn stepped isThere isAt isNext landSum heardSum allWays ways drawn lanes sizes cells torn before) H locs → lv_has ls 2 [(0, .ref (a_m 0))] → K pos_27 value_28 = some (pos_o, frm_o, sort_o, value_o, fault_o, wrongAt_o) → W P l E rmX6_takes Z Mi AR BE ME CO H locs 0 0 Q (F0 Mi 217 ls [])) → ∀ (n : Nat), ∀ (pos_27 : Int32) (value_28 : Int32) (H : Heap) (locs : List Loc) (ls : Array Slot), Wd g A Z.heap (wM g a_m st now isKept hearers draft dHearers dWalls toldWinds tape taped pos_27 pos_2 2 value_28 fault wrongAt landed landedIn stepped isThere isAt isNext landSum heardSum allWays ways drawn lanes sizes cells torn before) H locs → lv_has ls 2 [(0, .ref (a_m 0))] → fX6_takes_L140 tape taped pos_2 K n pos_27 value_28 = some (pos_o, frm_o, sort_o, value_o, fault_o, wrongAt_o) → W P l E rmX6_takes Z Mi AR BE ME CO H locs 0 0 Q (F0 Mi 140 ls []) := by
            intro K hKe n
            induction n with
            | zero => intro pos_27 value_28 H locs ls w hl hf; cases hf
            | succ n ih =>
              intro pos_27 value_28 H locs ls w hl hf
              rw [fX6_takes_L140] at hf
              refine lv_aload_n C.1 C.2.1 (dk_at dkX6_takes 69 rfl) rfl (lv_at hl 0 rfl) ?_
              refine lv_aload_n C.1 C.2.1 (dk_at dkX6_takes 70 rfl) rfl (lv_at hl 0 rfl) ?_
              refine r_get (v := .int pos_27) C hK w.1 (fun w h => List.mem_cons_of_mem _ (inlX6 w h)) 0 rfl rfl 10 (by decide) (List.mem_cons_of_mem _ (inr12 _ (List.mem_of_getElem? (i := 19) rfl))) rfl (dk_at dkX6_takes 71 rfl) ?_
              obtain ⟨r30, hq31, hf⟩ := bd1_at hf
              refine r_roV (As := [.int pos_27]) (rest := []) C (kX6_byteAt l g a_m st now isKept hearers draft dHearers dWalls toldWinds tape taped pos_27 pos_2 2 value_28 fault wrongAt landed landedIn stepped isThere isAt isNext landSum heardSum allWays ways drawn lanes sizes cells torn before pos_27 r30 hq31) (cwV0 C (inr13 _ (List.mem_of_getElem? (i := 8) rfl)) mwX6_byteAt hdX6_byteAt ⟨Nat.le_of_ble_eq_true rfl, Nat.le_of_ble_eq_true rfl⟩) hK w.1 rfl rfl rfl hl.1 rfl (Nat.le_of_ble_eq_true rfl) ⟨Nat.zero_le _, Nat.zero_le _⟩ (dk_at dkX6_takes 72 rfl) ?_
              refine lv_i2l C.1 C.2.1 (dk_at dkX6_takes 73 rfl) rfl ?_
              refine lv_topl (fun x32 ex32 => ?_)
              have hf := nm_at ex32 hf
              refine lv_ldc2 (v := 48) C.1 C.2.1 C.2.2.2.1 (C.2.2.2.2 _ (List.mem_cons_of_mem _ (inr13 _ (List.mem_of_getElem? (i := 5) rfl)))) (dk_at dkX6_takes 74 rfl) ?_
              refine lv_ldc2 (v := 57) C.1 C.2.1 C.2.2.2.1 (C.2.2.2.2 _ (List.mem_cons_of_mem _ (inr13 _ (List.mem_of_getElem? (i := 6) rfl)))) (dk_at dkX6_takes 75 rfl) ?_
              obtain ⟨r33, hq34, hf⟩ := bd1_at hf
              refine r_st (As := [.long x32, .long 48, .long 57]) (rest := []) C (kX6_in l x32 48 57 r33 hq34) (cwS0 C (inr5 _ (List.mem_of_getElem? (i := 21) rfl)) mwX6_in hdX6_in ⟨Nat.le_of_ble_eq_true rfl, Nat.le_of_ble_eq_true rfl⟩) rfl hl.1 rfl (Nat.le_of_ble_eq_true rfl) ⟨Nat.zero_le _, Nat.zero_le _⟩ (dk_at dkX6_takes 76 rfl) ?_
              refine lv_if_eq (tgt := 217) C.1 C.2.1 (dk_at dkX6_takes 77 rfl) (by decide) (fun c35 => ?_) (fun c35 => ?_)
              · have hf := (if_pos c35).symm.trans hf
                exact hKe pos_27 value_28 _ _ _ w (lv_sub hl [0] rfl) hf
              · have hf := (if_neg c35).symm.trans hf
                refine lv_aload_n C.1 C.2.1 (dk_at dkX6_takes 78 rfl) rfl (lv_at hl 0 rfl) ?_
                refine lv_aload_n C.1 C.2.1 (dk_at dkX6_takes 79 rfl) rfl (lv_at hl 0 rfl) ?_
                refine r_get (v := .int pos_27) C hK w.1 (fun w h => List.mem_cons_of_mem _ (inlX6 w h)) 0 rfl rfl 10 (by decide) (List.mem_cons_of_mem _ (inr12 _ (List.mem_of_getElem? (i := 19) rfl))) rfl (dk_at dkX6_takes 80 rfl) ?_
                refine lv_aload_n C.1 C.2.1 (dk_at dkX6_takes 81 rfl) rfl (lv_at hl 0 rfl) ?_
                refine r_get (v := .int pos_2) C hK w.1 (fun w h => List.mem_cons_of_mem _ (inlX6 w h)) 0 rfl rfl 11 (by decide) (List.mem_cons_of_mem _ (inr13 _ (List.mem_of_getElem? (i := 2) rfl))) rfl (dk_at dkX6_takes 82 rfl) ?_
                refine lv_isub C.1 C.2.1 (dk_at dkX6_takes 83 rfl) ?_
                refine lv_topi (fun x36 ex36 => ?_)
                have hf := nm_at ex36 hf
                refine lv_iconst (v := 2) C.1 C.2.1 (dk_at dkX6_takes 84 rfl) (by decide) ?_
                refine lv_icmp_ge (tgt := 197) C.1 C.2.1 (dk_at dkX6_takes 85 rfl) (by decide) (fun c37 => ?_) (fun c37 => ?_)
                · have hf := (if_pos c37).symm.trans hf
                  refine lv_aload_n C.1 C.2.1 (dk_at dkX6_takes 98 rfl) rfl (lv_at hl 0 rfl) ?_
                  refine r_get (v := .int value_28) C hK w.1 (fun w h => List.mem_cons_of_mem _ (inlX6 w h)) 0 rfl rfl 13 (by decide) (List.mem_cons_of_mem _ (inr13 _ (List.mem_of_getElem? (i := 7) rfl))) rfl (dk_at dkX6_takes 99 rfl) ?_
                  refine r_put (v := .int value_28) C hK w (fun w h => List.mem_cons_of_mem _ (inlX6 w h)) tyX6 tyX6_ok nmX6 0 rfl rfl 13 (by decide) (List.mem_cons_of_mem _ (inr13 _ (List.mem_of_getElem? (i := 7) rfl))) rfl rfl rfl (Nat.le_of_ble_eq_true rfl) (dk_at dkX6_takes 100 rfl) (fun H locs w => ?_)
                  have w : Wd g A Z.heap (wM g a_m st now isKept hearers draft dHearers dWalls toldWinds tape taped pos_27 pos_2 2 value_28 fault wrongAt landed landedIn stepped isThere isAt isNext landSum heardSum allWays ways drawn lanes sizes cells torn before) H locs := w
                  refine lv_aload_n C.1 C.2.1 (dk_at dkX6_takes 101 rfl) rfl (lv_at hl 0 rfl) ?_
                  refine lv_dup C.1 C.2.1 (dk_at dkX6_takes 102 rfl) rfl ?_
                  refine r_get (v := .int pos_27) C hK w.1 (fun w h => List.mem_cons_of_mem _ (inlX6 w h)) 0 rfl rfl 10 (by decide) (List.mem_cons_of_mem _ (inr12 _ (List.mem_of_getElem? (i := 19) rfl))) rfl (dk_at dkX6_takes 103 rfl) ?_
                  refine lv_iconst (v := 1) C.1 C.2.1 (dk_at dkX6_takes 104 rfl) (by decide) ?_
                  refine lv_iadd C.1 C.2.1 (dk_at dkX6_takes 105 rfl) ?_
                  refine lv_topi (fun x38 ex38 => ?_)
                  have hf := nm_at ex38 hf
                  refine r_put (v := .int x38) C hK w (fun w h => List.mem_cons_of_mem _ (inlX6 w h)) tyX6 tyX6_ok nmX6 0 rfl rfl 10 (by decide) (List.mem_cons_of_mem _ (inr12 _ (List.mem_of_getElem? (i := 19) rfl))) rfl rfl rfl (Nat.le_of_ble_eq_true rfl) (dk_at dkX6_takes 106 rfl) (fun H locs w => ?_)
                  have w : Wd g A Z.heap (wM g a_m st now isKept hearers draft dHearers dWalls toldWinds tape taped x38 pos_2 2 value_28 fault wrongAt landed landedIn stepped isThere isAt isNext landSum heardSum allWays ways drawn lanes sizes cells torn before) H locs := w
                  refine lv_goto (tgt := 140) C.1 C.2.1 (dk_at dkX6_takes 107 rfl) (by decide) ?_
                  exact ih x38 value_28 _ _ _ w (lv_sub hl [0] rfl) hf
                · have hf := (if_neg c37).symm.trans hf
                  refine lv_bipush (v := 10) C.1 C.2.1 (dk_at dkX6_takes 86 rfl) (by decide) ?_
                  refine lv_aload_n C.1 C.2.1 (dk_at dkX6_takes 87 rfl) rfl (lv_at hl 0 rfl) ?_
                  refine r_get (v := .int value_28) C hK w.1 (fun w h => List.mem_cons_of_mem _ (inlX6 w h)) 0 rfl rfl 13 (by decide) (List.mem_cons_of_mem _ (inr13 _ (List.mem_of_getElem? (i := 7) rfl))) rfl (dk_at dkX6_takes 88 rfl) ?_
                  refine lv_imul C.1 C.2.1 (dk_at dkX6_takes 89 rfl) ?_
                  refine lv_topi (fun x39 ex39 => ?_)
                  have hf := nm_at ex39 hf
                  refine lv_aload_n C.1 C.2.1 (dk_at dkX6_takes 90 rfl) rfl (lv_at hl 0 rfl) ?_
                  refine lv_aload_n C.1 C.2.1 (dk_at dkX6_takes 91 rfl) rfl (lv_at hl 0 rfl) ?_
                  refine r_get (v := .int pos_27) C hK w.1 (fun w h => List.mem_cons_of_mem _ (inlX6 w h)) 0 rfl rfl 10 (by decide) (List.mem_cons_of_mem _ (inr12 _ (List.mem_of_getElem? (i := 19) rfl))) rfl (dk_at dkX6_takes 92 rfl) ?_
                  obtain ⟨r40, hq41, hf⟩ := bd1_at hf
                  refine r_roV (As := [.int pos_27]) (rest := [.int x39, .ref (a_m 0)]) C (kX6_byteAt l g a_m st now isKept hearers draft dHearers dWalls toldWinds tape taped pos_27 pos_2 2 value_28 fault wrongAt landed landedIn stepped isThere isAt isNext landSum heardSum allWays ways drawn lanes sizes cells torn before pos_27 r40 hq41) (cwV0 C (inr13 _ (List.mem_of_getElem? (i := 8) rfl)) mwX6_byteAt hdX6_byteAt ⟨Nat.le_of_ble_eq_true rfl, Nat.le_of_ble_eq_true rfl⟩) hK w.1 rfl rfl rfl hl.1 rfl (Nat.le_of_ble_eq_true rfl) ⟨Nat.zero_le _, Nat.zero_le _⟩ (dk_at dkX6_takes 93 rfl) ?_
                  refine lv_iadd C.1 C.2.1 (dk_at dkX6_takes 94 rfl) ?_
                  refine lv_topi (fun x42 ex42 => ?_)
                  have hf := nm_at ex42 hf
                  refine lv_bipush (v := 48) C.1 C.2.1 (dk_at dkX6_takes 95 rfl) (by decide) ?_
                  refine lv_isub C.1 C.2.1 (dk_at dkX6_takes 96 rfl) ?_
                  refine lv_topi (fun x43 ex43 => ?_)
                  have hf := nm_at ex43 hf
                  refine lv_goto (tgt := 201) C.1 C.2.1 (dk_at dkX6_takes 97 rfl) (by decide) ?_
                  refine r_put (v := .int x43) C hK w (fun w h => List.mem_cons_of_mem _ (inlX6 w h)) tyX6 tyX6_ok nmX6 0 rfl rfl 13 (by decide) (List.mem_cons_of_mem _ (inr13 _ (List.mem_of_getElem? (i := 7) rfl))) rfl rfl rfl (Nat.le_of_ble_eq_true rfl) (dk_at dkX6_takes 100 rfl) (fun H locs w => ?_)
                  have w : Wd g A Z.heap (wM g a_m st now isKept hearers draft dHearers dWalls toldWinds tape taped pos_27 pos_2 2 x43 fault wrongAt landed landedIn stepped isThere isAt isNext landSum heardSum allWays ways drawn lanes sizes cells torn before) H locs := w
                  refine lv_aload_n C.1 C.2.1 (dk_at dkX6_takes 101 rfl) rfl (lv_at hl 0 rfl) ?_
                  refine lv_dup C.1 C.2.1 (dk_at dkX6_takes 102 rfl) rfl ?_
                  refine r_get (v := .int pos_27) C hK w.1 (fun w h => List.mem_cons_of_mem _ (inlX6 w h)) 0 rfl rfl 10 (by decide) (List.mem_cons_of_mem _ (inr12 _ (List.mem_of_getElem? (i := 19) rfl))) rfl (dk_at dkX6_takes 103 rfl) ?_
                  refine lv_iconst (v := 1) C.1 C.2.1 (dk_at dkX6_takes 104 rfl) (by decide) ?_
                  refine lv_iadd C.1 C.2.1 (dk_at dkX6_takes 105 rfl) ?_
                  refine lv_topi (fun x44 ex44 => ?_)
                  have hf := nm_at ex44 hf
                  refine r_put (v := .int x44) C hK w (fun w h => List.mem_cons_of_mem _ (inlX6 w h)) tyX6 tyX6_ok nmX6 0 rfl rfl 10 (by decide) (List.mem_cons_of_mem _ (inr12 _ (List.mem_of_getElem? (i := 19) rfl))) rfl rfl rfl (Nat.le_of_ble_eq_true rfl) (dk_at dkX6_takes 106 rfl) (fun H locs w => ?_)
                  have w : Wd g A Z.heap (wM g a_m st now isKept hearers draft dHearers dWalls toldWinds tape taped x44 pos_2 2 x43 fault wrongAt landed landedIn stepped isThere isAt isNext landSum heardSum allWays ways drawn lanes sizes cells torn before) H locs := w
                  refine lv_goto (tgt := 140) C.1 C.2.1 (dk_at dkX6_takes 107 rfl) (by decide) ?_
                  exact ih x44 x43 _ _ _ w (lv_sub hl [0] rfl) hf
          refine L29 _ ?_ 4096 pos_2 0 _ _ _ w (lv_sub hl [1] rfl) hf
          clear hf
          intro pos_27 value_28 H locs ls w hl hf
          refine lv_aload_n C.1 C.2.1 (dk_at dkX6_takes 108 rfl) rfl (lv_at hl 0 rfl) ?_
          refine lv_aload_n C.1 C.2.1 (dk_at dkX6_takes 109 rfl) rfl (lv_at hl 0 rfl) ?_
          refine r_get (v := .int pos_27) C hK w.1 (fun w h => List.mem_cons_of_mem _ (inlX6 w h)) 0 rfl rfl 10 (by decide) (List.mem_cons_of_mem _ (inr12 _ (List.mem_of_getElem? (i := 19) rfl))) rfl (dk_at dkX6_takes 110 rfl) ?_
          refine lv_aload_n C.1 C.2.1 (dk_at dkX6_takes 111 rfl) rfl (lv_at hl 0 rfl) ?_
          refine r_get (v := .int pos_2) C hK w.1 (fun w h => List.mem_cons_of_mem _ (inlX6 w h)) 0 rfl rfl 11 (by decide) (List.mem_cons_of_mem _ (inr13 _ (List.mem_of_getElem? (i := 2) rfl))) rfl (dk_at dkX6_takes 112 rfl) ?_
          refine lv_isub C.1 C.2.1 (dk_at dkX6_takes 113 rfl) ?_
          refine lv_topi (fun x45 ex45 => ?_)
          have hf := nm_at ex45 hf
          refine lv_iconst (v := 2) C.1 C.2.1 (dk_at dkX6_takes 114 rfl) (by decide) ?_
          obtain ⟨y46, hq47, hf⟩ := bd1_at hf
          have J48 : ∀ (H : Heap) (locs : List Loc) (ls : Array Slot), Wd g A Z.heap (wM g a_m st now isKept hearers draft dHearers dWalls toldWinds tape taped pos_27 pos_2 2 value_28 fault wrongAt landed landedIn stepped isThere isAt isNext landSum heardSum allWays ways drawn lanes sizes cells torn before) H locs → lv_has ls 2 [] → W P l E rmX6_takes Z Mi AR BE ME CO H locs 0 0 Q (F0 Mi 236 ls [.int y46, .ref (a_m 0)]) := by
            intro H locs ls w hl
            refine lv_iconst (v := 1) C.1 C.2.1 (dk_at dkX6_takes 119 rfl) (by decide) ?_
            obtain ⟨fault_49, wrongAt_50, hq51, hf⟩ := bd2_at hf
            refine r_rwv (As := [.int y46, .int 1]) (rest := []) (wr := []) (ws' := wM g a_m st now isKept hearers draft dHearers dWalls toldWinds tape taped pos_27 pos_2 2 value_28 fault_49 wrongAt_50 landed landedIn stepped isThere isAt isNext landSum heardSum allWays ways drawn lanes sizes cells torn before) C (kX6_needs l g _ a_m st now isKept hearers draft dHearers dWalls toldWinds tape taped pos_27 pos_2 2 value_28 fault wrongAt landed landedIn stepped isThere isAt isNext landSum heardSum allWays ways drawn lanes sizes cells torn before y46 1 fault_49 wrongAt_50 hq51) (cwV0 C (inr13 _ (List.mem_of_getElem? (i := 12) rfl)) mwX6_needs hdX6_needs ⟨Nat.le_of_ble_eq_true rfl, Nat.le_of_ble_eq_true rfl⟩) hK w hA [0, 1, 2, 3, 4, 5, 6, 7, 8, 9, 10, 11, 12, 13, 14, 15, 16, 17] [] [0, 1, 2, 3, 4, 5, 6, 7, 8, 9, 10, 11, 12, 13, 14, 15, 16, 17] (by decide) rfl rfl (by decide) (by decide) rfl (by decide) rfl rfl rfl hl.1 rfl (Nat.le_of_ble_eq_true rfl) ⟨Nat.zero_le _, Nat.zero_le _⟩ (dk_at dkX6_takes 120 rfl) (fun H locs w => ?_)
            refine lv_goto (tgt := 274) C.1 C.2.1 (dk_at dkX6_takes 121 rfl) (by decide) ?_
            cases hf
            exact fin _ _ _ _ (dk_at dkX6_takes 140 rfl) w
          clear hf
          have hf := hq47
          refine lv_icmp_gt (tgt := 235) C.1 C.2.1 (dk_at dkX6_takes 115 rfl) (by decide) (fun c52 => ?_) (fun c52 => ?_)
          · have hf := (if_pos c52).symm.trans hf
            refine lv_iconst (v := 0) C.1 C.2.1 (dk_at dkX6_takes 118 rfl) (by decide) ?_
            cases hf
            exact J48 _ _ _ w (lv_sub hl [] rfl)
          · have hf := (if_neg c52).symm.trans hf
            refine lv_iconst (v := 1) C.1 C.2.1 (dk_at dkX6_takes 116 rfl) (by decide) ?_
            refine lv_goto (tgt := 236) C.1 C.2.1 (dk_at dkX6_takes 117 rfl) (by decide) ?_
            cases hf
            exact J48 _ _ _ w (lv_sub hl [] rfl)
      · have hf := (if_neg c14).symm.trans hf
        refine lv_aload_n C.1 C.2.1 (dk_at dkX6_takes 38 rfl) rfl (lv_at hl 1 rfl) ?_
        refine lv_iconst (v := 1) C.1 C.2.1 (dk_at dkX6_takes 39 rfl) (by decide) ?_
        refine r_put (v := .int 1) C hK w (fun w h => List.mem_cons_of_mem _ (inlX6 w h)) tyX6 tyX6_ok nmX6 0 rfl rfl 12 (by decide) (List.mem_cons_of_mem _ (inr12 _ (List.mem_of_getElem? (i := 20) rfl))) rfl rfl rfl (Nat.le_of_ble_eq_true rfl) (dk_at dkX6_takes 40 rfl) (fun H locs w => ?_)
        have w : Wd g A Z.heap (wM g a_m st now isKept hearers draft dHearers dWalls toldWinds tape taped pos_2 pos_2 1 value fault wrongAt landed landedIn stepped isThere isAt isNext landSum heardSum allWays ways drawn lanes sizes cells torn before) H locs := w
        have L54 : ∀ (K : Int32 → Option (Int32 × Int32 × Int32 × Int32 × Int32 × Int32)), (∀ (pos_53 : Int32) (H : Heap) (locs : List Loc) (ls : Array Slot), Wd g A Z.heap (wM g a_m st now isKept hearers draft dHearers dWalls toldWinds tape taped pos_53 pos_2 1 value fault wrongAt landed landedIn stepped isThere isAt isNext landSum heardSum allWays ways drawn lanes sizes cells torn before) H locs → lv_has ls 2 [] → K pos_53 = some (pos_o, frm_o, sort_o, value_o, fault_o, wrongAt_o) → W P l E rmX6_takes Z Mi AR BE ME CO H locs 0 0 Q (F0 Mi 274 ls [])) → ∀ (n : Nat), ∀ (pos_53 : Int32) (H : Heap) (locs : List Loc) (ls : Array Slot), Wd g A Z.heap (wM g a_m st now isKept hearers draft dHearers dWalls toldWinds tape taped pos_53 pos_2 1 value fault wrongAt landed landedIn stepped isThere isAt isNext landSum heardSum allWays ways drawn lanes sizes cells torn before) H locs → lv_has ls 2 [(0, .ref (a_m 0))] → fX6_takes_L82 tape taped K n pos_53 = some (pos_o, frm_o, sort_o, value_o, fault_o, wrongAt_o) → W P l E rmX6_takes Z Mi AR BE ME CO H locs 0 0 Q (F0 Mi 82 ls []) := by
          intro K hKe n
          induction n with
          | zero => intro pos_53 H locs ls w hl hf; cases hf
          | succ n ih =>
            intro pos_53 H locs ls w hl hf
            rw [fX6_takes_L82] at hf
            refine lv_aload_n C.1 C.2.1 (dk_at dkX6_takes 41 rfl) rfl (lv_at hl 0 rfl) ?_
            refine lv_aload_n C.1 C.2.1 (dk_at dkX6_takes 42 rfl) rfl (lv_at hl 0 rfl) ?_
            refine r_get (v := .int pos_53) C hK w.1 (fun w h => List.mem_cons_of_mem _ (inlX6 w h)) 0 rfl rfl 10 (by decide) (List.mem_cons_of_mem _ (inr12 _ (List.mem_of_getElem? (i := 19) rfl))) rfl (dk_at dkX6_takes 43 rfl) ?_
            obtain ⟨r55, hq56, hf⟩ := bd1_at hf
            refine r_roV (As := [.int pos_53]) (rest := []) C (kX6_byteAt l g a_m st now isKept hearers draft dHearers dWalls toldWinds tape taped pos_53 pos_2 1 value fault wrongAt landed landedIn stepped isThere isAt isNext landSum heardSum allWays ways drawn lanes sizes cells torn before pos_53 r55 hq56) (cwV0 C (inr13 _ (List.mem_of_getElem? (i := 8) rfl)) mwX6_byteAt hdX6_byteAt ⟨Nat.le_of_ble_eq_true rfl, Nat.le_of_ble_eq_true rfl⟩) hK w.1 rfl rfl rfl hl.1 rfl (Nat.le_of_ble_eq_true rfl) ⟨Nat.zero_le _, Nat.zero_le _⟩ (dk_at dkX6_takes 44 rfl) ?_
            refine lv_i2l C.1 C.2.1 (dk_at dkX6_takes 45 rfl) rfl ?_
            refine lv_topl (fun x57 ex57 => ?_)
            have hf := nm_at ex57 hf
            refine lv_ldc2 (v := 97) C.1 C.2.1 C.2.2.2.1 (C.2.2.2.2 _ (List.mem_cons_of_mem _ (inr13 _ (List.mem_of_getElem? (i := 3) rfl)))) (dk_at dkX6_takes 46 rfl) ?_
            refine lv_ldc2 (v := 122) C.1 C.2.1 C.2.2.2.1 (C.2.2.2.2 _ (List.mem_cons_of_mem _ (inr13 _ (List.mem_of_getElem? (i := 4) rfl)))) (dk_at dkX6_takes 47 rfl) ?_
            obtain ⟨r58, hq59, hf⟩ := bd1_at hf
            refine r_st (As := [.long x57, .long 97, .long 122]) (rest := []) C (kX6_in l x57 97 122 r58 hq59) (cwS0 C (inr5 _ (List.mem_of_getElem? (i := 21) rfl)) mwX6_in hdX6_in ⟨Nat.le_of_ble_eq_true rfl, Nat.le_of_ble_eq_true rfl⟩) rfl hl.1 rfl (Nat.le_of_ble_eq_true rfl) ⟨Nat.zero_le _, Nat.zero_le _⟩ (dk_at dkX6_takes 48 rfl) ?_
            refine lv_if_eq (tgt := 274) C.1 C.2.1 (dk_at dkX6_takes 49 rfl) (by decide) (fun c60 => ?_) (fun c60 => ?_)
            · have hf := (if_pos c60).symm.trans hf
              exact hKe pos_53 _ _ _ w (lv_sub hl [] rfl) hf
            · have hf := (if_neg c60).symm.trans hf
              refine lv_aload_n C.1 C.2.1 (dk_at dkX6_takes 50 rfl) rfl (lv_at hl 0 rfl) ?_
              refine lv_dup C.1 C.2.1 (dk_at dkX6_takes 51 rfl) rfl ?_
              refine r_get (v := .int pos_53) C hK w.1 (fun w h => List.mem_cons_of_mem _ (inlX6 w h)) 0 rfl rfl 10 (by decide) (List.mem_cons_of_mem _ (inr12 _ (List.mem_of_getElem? (i := 19) rfl))) rfl (dk_at dkX6_takes 52 rfl) ?_
              refine lv_iconst (v := 1) C.1 C.2.1 (dk_at dkX6_takes 53 rfl) (by decide) ?_
              refine lv_iadd C.1 C.2.1 (dk_at dkX6_takes 54 rfl) ?_
              refine lv_topi (fun x61 ex61 => ?_)
              have hf := nm_at ex61 hf
              refine r_put (v := .int x61) C hK w (fun w h => List.mem_cons_of_mem _ (inlX6 w h)) tyX6 tyX6_ok nmX6 0 rfl rfl 10 (by decide) (List.mem_cons_of_mem _ (inr12 _ (List.mem_of_getElem? (i := 19) rfl))) rfl rfl rfl (Nat.le_of_ble_eq_true rfl) (dk_at dkX6_takes 55 rfl) (fun H locs w => ?_)
              have w : Wd g A Z.heap (wM g a_m st now isKept hearers draft dHearers dWalls toldWinds tape taped x61 pos_2 1 value fault wrongAt landed landedIn stepped isThere isAt isNext landSum heardSum allWays ways drawn lanes sizes cells torn before) H locs := w
              refine lv_goto (tgt := 82) C.1 C.2.1 (dk_at dkX6_takes 56 rfl) (by decide) ?_
              exact ih x61 _ _ _ w (lv_sub hl [0] rfl) hf
        refine L54 _ ?_ 4096 pos_2 _ _ _ w (lv_sub hl [1] rfl) hf
        clear hf
        intro pos_53 H locs ls w hl hf
        cases hf
        exact fin _ _ _ _ (dk_at dkX6_takes 140 rfl) w
    · have hf := (if_neg c10).symm.trans hf
      refine lv_aload_n C.1 C.2.1 (dk_at dkX6_takes 28 rfl) rfl (lv_at hl 1 rfl) ?_
      refine lv_iconst (v := 0) C.1 C.2.1 (dk_at dkX6_takes 29 rfl) (by decide) ?_
      refine r_put (v := .int 0) C hK w (fun w h => List.mem_cons_of_mem _ (inlX6 w h)) tyX6 tyX6_ok nmX6 0 rfl rfl 12 (by decide) (List.mem_cons_of_mem _ (inr12 _ (List.mem_of_getElem? (i := 20) rfl))) rfl rfl rfl (Nat.le_of_ble_eq_true rfl) (dk_at dkX6_takes 30 rfl) (fun H locs w => ?_)
      have w : Wd g A Z.heap (wM g a_m st now isKept hearers draft dHearers dWalls toldWinds tape taped pos_2 pos_2 0 value fault wrongAt landed landedIn stepped isThere isAt isNext landSum heardSum allWays ways drawn lanes sizes cells torn before) H locs := w
      refine lv_goto (tgt := 274) C.1 C.2.1 (dk_at dkX6_takes 31 rfl) (by decide) ?_
      cases hf
      exact fin _ _ _ _ (dk_at dkX6_takes 140 rfl) w
  · have hf := (if_neg c1).symm.trans hf
    cases hf
    exact fin _ _ _ _ (dk_at dkX6_takes 3 rfl) w
-- X6.looked
abbrev tbX6_looked : List (Nat × Instr × Nat) := [(0, .aload_n 0, 1), (1, .getfield 90, 3), (4, .ifCond .ne 21, 3), (7, .aload_n 0, 1), (8, .aload_n 0, 1), (9, .getfield 118, 3), (12, .iconst 2, 1), (13, .if_icmp .ne 7, 3), (16, .iconst 1, 1), (17, .goto 4, 3), (20, .iconst 0, 1), (21, .iconst 2, 1), (22, .invokevirtual 132, 3), (25, .aload_n 0, 1), (26, .getfield 90, 3), (29, .ifCond .ne 20, 3), (32, .aload_n 0, 1), (33, .aload_n 0, 1), (34, .getfield 129, 3), (37, .i2l, 1), (38, .iload_n 1, 1), (39, .i2l, 1), (40, .iload_n 2, 1), (41, .i2l, 1), (42, .invokestatic 83, 3), (45, .iconst 3, 1), (46, .invokevirtual 132, 3), (49, .aload_n 0, 1), (50, .getfield 90, 3), (53, .ifCond .ne 10, 3), (56, .aload_n 0, 1), (57, .getfield 129, 3), (60, .goto 4, 3), (63, .iconst 0, 1), (64, .ireturn, 1)]
theorem dkX6_looked : dk cX6_looked tbX6_looked := dk_of (by decide +kernel)
abbrev cdX6_looked : Cond := Cond.code yX6_looked cX6_looked 3 (some .int)
abbrev rmX6_looked : Room := { frames := 1, cells := 0, slots := 0, locals := 25 }
theorem mwX6_looked : Cond.instanceMethod yX6_looked ∈ wsL_law ∧ Cond.selects RX6 yX6_looked yX6_looked ∈ wsL_law ∧ Cond.initialized RX6 ∈ wsL_law ∧ cdX6_looked ∈ wsL_law := ⟨inr15 _ (List.mem_of_getElem? (i := 5) rfl), inr15 _ (List.mem_of_getElem? (i := 6) rfl), inr1 _ (List.mem_of_getElem? (i := 5) rfl), inr15 _ (List.mem_of_getElem? (i := 7) rfl)⟩
theorem hdX6_looked : yX6_looked.cls = RX6 ∧ yX6_looked.cls ≠ "java/lang/invoke/MethodHandle" ∧ yX6_looked.cls ≠ "java/lang/invoke/VarHandle" ∧ (parseMethodDescriptor yX6_looked.desc).map (fun d => d.parameters.length) = some 2 := by decide +kernel
set_option maxHeartbeats 4000000 in
set_option maxRecDepth 100000 in
theorem kX6_looked (l : Launch) (g : Gx) (sz : Nat) (a_m : Nat → Nat) (st : AI) (now : AI) (isKept : AI) (hearers : Int32) (draft : AI) (dHearers : Int32) (dWalls : Int32) (toldWinds : Int32) (tape : AI) (taped : Int32) (pos : Int32) (frm : Int32) (sort : Int32) (value : Int32) (fault : Int32) (wrongAt : Int32) (landed : AI) (landedIn : AI) (stepped : AI) (isThere : AI) (isAt : AI) (isNext : AI) (landSum : Int64) (heardSum : Int64) (allWays : Int64) (ways : AI) (drawn : AI) (lanes : AI) (sizes : AI) (cells : AI) (torn : Int32) (before : AI) (p1 : Int32) (p2 : Int32) (res : Int32) (fault_o : Int32) (wrongAt_o : Int32) (hf : fX6_looked p1 p2 frm sort value fault wrongAt = some (res, fault_o, wrongAt_o)) : Met l yX6_looked (cdX6_looked :: wsL_law) rmX6_looked (va_Pc [.ref (a_m 0), .int p1, .int p2] (RWp g sz (wM g a_m st now isKept hearers draft dHearers dWalls toldWinds tape taped pos frm sort value fault wrongAt landed landedIn stepped isThere isAt isNext landSum heardSum allWays ways drawn lanes sizes cells torn before))) (va_Qi (fun x (_ : Unit) => x = res) (fun _ => RWq g (va_A (wM g a_m st now isKept hearers draft dHearers dWalls toldWinds tape taped pos frm sort value fault wrongAt landed landedIn stepped isThere isAt isNext landSum heardSum allWays ways drawn lanes sizes cells torn before) sz) (wM g a_m st now isKept hearers draft dHearers dWalls toldWinds tape taped pos frm sort value fault_o wrongAt_o landed landedIn stepped isThere isAt isNext landSum heardSum allWays ways drawn lanes sizes cells torn before)) (va_A (wM g a_m st now isKept hearers draft dHearers dWalls toldWinds tape taped pos frm sort value fault wrongAt landed landedIn stepped isThere isAt isNext landSum heardSum allWays ways drawn lanes sizes cells torn before) sz)) 0 0 (va_A (wM g a_m st now isKept hearers draft dHearers dWalls toldWinds tape taped pos frm sort value fault wrongAt landed landedIn stepped isThere isAt isNext landSum heardSum allWays ways drawn lanes sizes cells torn before) sz) := by
  refine Met_rwi (cc := cX6_looked) (maxL := 3) (by decide) rfl (Nat.le_of_ble_eq_true rfl) ?_
  intro P E Z Mi AR BE ME CO A Q C hK hA fin w ls hl
  have hl : lv_has ls 3 [(0, .ref (a_m 0)), (1, .int p1), (2, .int p2)] := hl
  unfold fX6_looked at hf
  refine lv_aload_n C.1 C.2.1 (dk_at dkX6_looked 0 rfl) rfl (lv_at hl 0 rfl) ?_
  refine r_get (v := .int fault) C hK w.1 (fun w h => List.mem_cons_of_mem _ (inlX6 w h)) 0 rfl rfl 14 (by decide) (List.mem_cons_of_mem _ (inr12 _ (List.mem_of_getElem? (i := 18) rfl))) rfl (dk_at dkX6_looked 1 rfl) ?_
  obtain ⟨fault_1, wrongAt_2, hq3, hf⟩ := bd2_at hf
  have J4 : ∀ (H : Heap) (locs : List Loc) (ls : Array Slot), Wd g A Z.heap (wM g a_m st now isKept hearers draft dHearers dWalls toldWinds tape taped pos frm sort value fault_1 wrongAt_2 landed landedIn stepped isThere isAt isNext landSum heardSum allWays ways drawn lanes sizes cells torn before) H locs → lv_has ls 3 [(0, .ref (a_m 0)), (1, .int p1), (2, .int p2)] → W P l E rmX6_looked Z Mi AR BE ME CO H locs 0 0 Q (F0 Mi 25 ls []) := by
    intro H locs ls w hl
    refine lv_aload_n C.1 C.2.1 (dk_at dkX6_looked 13 rfl) rfl (lv_at hl 0 rfl) ?_
    refine r_get (v := .int fault_1) C hK w.1 (fun w h => List.mem_cons_of_mem _ (inlX6 w h)) 0 rfl rfl 14 (by decide) (List.mem_cons_of_mem _ (inr12 _ (List.mem_of_getElem? (i := 18) rfl))) rfl (dk_at dkX6_looked 14 rfl) ?_
    obtain ⟨fault_5, wrongAt_6, hq7, hf⟩ := bd2_at hf
    have J8 : ∀ (H : Heap) (locs : List Loc) (ls : Array Slot), Wd g A Z.heap (wM g a_m st now isKept hearers draft dHearers dWalls toldWinds tape taped pos frm sort value fault_5 wrongAt_6 landed landedIn stepped isThere isAt isNext landSum heardSum allWays ways drawn lanes sizes cells torn before) H locs → lv_has ls 3 [(0, .ref (a_m 0))] → W P l E rmX6_looked Z Mi AR BE ME CO H locs 0 0 Q (F0 Mi 49 ls []) := by
      intro H locs ls w hl
      refine lv_aload_n C.1 C.2.1 (dk_at dkX6_looked 27 rfl) rfl (lv_at hl 0 rfl) ?_
      refine r_get (v := .int fault_5) C hK w.1 (fun w h => List.mem_cons_of_mem _ (inlX6 w h)) 0 rfl rfl 14 (by decide) (List.mem_cons_of_mem _ (inr12 _ (List.mem_of_getElem? (i := 18) rfl))) rfl (dk_at dkX6_looked 28 rfl) ?_
      refine lv_if_ne (tgt := 63) C.1 C.2.1 (dk_at dkX6_looked 29 rfl) (by decide) (fun c9 => ?_) (fun c9 => ?_)
      · have hf := (if_neg c9).symm.trans hf
        refine lv_iconst (v := 0) C.1 C.2.1 (dk_at dkX6_looked 33 rfl) (by decide) ?_
        cases hf
        exact fin _ _ _ _ _ (dk_at dkX6_looked 34 rfl) rfl w
      · have hf := (if_pos c9).symm.trans hf
        refine lv_aload_n C.1 C.2.1 (dk_at dkX6_looked 30 rfl) rfl (lv_at hl 0 rfl) ?_
        refine r_get (v := .int value) C hK w.1 (fun w h => List.mem_cons_of_mem _ (inlX6 w h)) 0 rfl rfl 13 (by decide) (List.mem_cons_of_mem _ (inr13 _ (List.mem_of_getElem? (i := 7) rfl))) rfl (dk_at dkX6_looked 31 rfl) ?_
        refine lv_goto (tgt := 64) C.1 C.2.1 (dk_at dkX6_looked 32 rfl) (by decide) ?_
        cases hf
        exact fin _ _ _ _ _ (dk_at dkX6_looked 34 rfl) rfl w
    clear hf
    have hf := hq7
    refine lv_if_ne (tgt := 49) C.1 C.2.1 (dk_at dkX6_looked 15 rfl) (by decide) (fun c10 => ?_) (fun c10 => ?_)
    · have hf := (if_neg c10).symm.trans hf
      cases hf
      exact J8 _ _ _ w (lv_sub hl [0] rfl)
    · have hf := (if_pos c10).symm.trans hf
      refine lv_aload_n C.1 C.2.1 (dk_at dkX6_looked 16 rfl) rfl (lv_at hl 0 rfl) ?_
      refine lv_aload_n C.1 C.2.1 (dk_at dkX6_looked 17 rfl) rfl (lv_at hl 0 rfl) ?_
      refine r_get (v := .int value) C hK w.1 (fun w h => List.mem_cons_of_mem _ (inlX6 w h)) 0 rfl rfl 13 (by decide) (List.mem_cons_of_mem _ (inr13 _ (List.mem_of_getElem? (i := 7) rfl))) rfl (dk_at dkX6_looked 18 rfl) ?_
      refine lv_i2l C.1 C.2.1 (dk_at dkX6_looked 19 rfl) rfl ?_
      refine lv_topl (fun x11 ex11 => ?_)
      have hf := nm_at ex11 hf
      refine lv_iload_n C.1 C.2.1 (dk_at dkX6_looked 20 rfl) rfl (lv_at hl 1 rfl) ?_
      refine lv_i2l C.1 C.2.1 (dk_at dkX6_looked 21 rfl) rfl ?_
      refine lv_topl (fun x12 ex12 => ?_)
      have hf := nm_at ex12 hf
      refine lv_iload_n C.1 C.2.1 (dk_at dkX6_looked 22 rfl) rfl (lv_at hl 2 rfl) ?_
      refine lv_i2l C.1 C.2.1 (dk_at dkX6_looked 23 rfl) rfl ?_
      refine lv_topl (fun x13 ex13 => ?_)
      have hf := nm_at ex13 hf
      obtain ⟨r14, hq15, hf⟩ := bd1_at hf
      refine r_st (As := [.long x11, .long x12, .long x13]) (rest := [.ref (a_m 0)]) C (kX6_in l x11 x12 x13 r14 hq15) (cwS0 C (inr5 _ (List.mem_of_getElem? (i := 21) rfl)) mwX6_in hdX6_in ⟨Nat.le_of_ble_eq_true rfl, Nat.le_of_ble_eq_true rfl⟩) rfl hl.1 rfl (Nat.le_of_ble_eq_true rfl) ⟨Nat.zero_le _, Nat.zero_le _⟩ (dk_at dkX6_looked 24 rfl) ?_
      refine lv_iconst (v := 3) C.1 C.2.1 (dk_at dkX6_looked 25 rfl) (by decide) ?_
      obtain ⟨fault_16, wrongAt_17, hq18, hf⟩ := bd2_at hf
      refine r_rwv (As := [.int r14, .int 3]) (rest := []) (wr := []) (ws' := wM g a_m st now isKept hearers draft dHearers dWalls toldWinds tape taped pos frm sort value fault_16 wrongAt_17 landed landedIn stepped isThere isAt isNext landSum heardSum allWays ways drawn lanes sizes cells torn before) C (kX6_needs l g _ a_m st now isKept hearers draft dHearers dWalls toldWinds tape taped pos frm sort value fault_1 wrongAt_2 landed landedIn stepped isThere isAt isNext landSum heardSum allWays ways drawn lanes sizes cells torn before r14 3 fault_16 wrongAt_17 hq18) (cwV0 C (inr13 _ (List.mem_of_getElem? (i := 12) rfl)) mwX6_needs hdX6_needs ⟨Nat.le_of_ble_eq_true rfl, Nat.le_of_ble_eq_true rfl⟩) hK w hA [0, 1, 2, 3, 4, 5, 6, 7, 8, 9, 10, 11, 12, 13, 14, 15, 16, 17] [] [0, 1, 2, 3, 4, 5, 6, 7, 8, 9, 10, 11, 12, 13, 14, 15, 16, 17] (by decide) rfl rfl (by decide) (by decide) rfl (by decide) rfl rfl rfl hl.1 rfl (Nat.le_of_ble_eq_true rfl) ⟨Nat.zero_le _, Nat.zero_le _⟩ (dk_at dkX6_looked 26 rfl) (fun H locs w => ?_)
      cases hf
      exact J8 _ _ _ w (lv_sub hl [0] rfl)
  clear hf
  have hf := hq3
  refine lv_if_ne (tgt := 25) C.1 C.2.1 (dk_at dkX6_looked 2 rfl) (by decide) (fun c19 => ?_) (fun c19 => ?_)
  · have hf := (if_neg c19).symm.trans hf
    cases hf
    exact J4 _ _ _ w (lv_sub hl [0, 1, 2] rfl)
  · have hf := (if_pos c19).symm.trans hf
    refine lv_aload_n C.1 C.2.1 (dk_at dkX6_looked 3 rfl) rfl (lv_at hl 0 rfl) ?_
    refine lv_aload_n C.1 C.2.1 (dk_at dkX6_looked 4 rfl) rfl (lv_at hl 0 rfl) ?_
    refine r_get (v := .int sort) C hK w.1 (fun w h => List.mem_cons_of_mem _ (inlX6 w h)) 0 rfl rfl 12 (by decide) (List.mem_cons_of_mem _ (inr12 _ (List.mem_of_getElem? (i := 20) rfl))) rfl (dk_at dkX6_looked 5 rfl) ?_
    refine lv_iconst (v := 2) C.1 C.2.1 (dk_at dkX6_looked 6 rfl) (by decide) ?_
    obtain ⟨y20, hq21, hf⟩ := bd1_at hf
    have J22 : ∀ (H : Heap) (locs : List Loc) (ls : Array Slot), Wd g A Z.heap (wM g a_m st now isKept hearers draft dHearers dWalls toldWinds tape taped pos frm sort value fault wrongAt landed landedIn stepped isThere isAt isNext landSum heardSum allWays ways drawn lanes sizes cells torn before) H locs → lv_has ls 3 [(0, .ref (a_m 0)), (1, .int p1), (2, .int p2)] → W P l E rmX6_looked Z Mi AR BE ME CO H locs 0 0 Q (F0 Mi 21 ls [.int y20, .ref (a_m 0)]) := by
      intro H locs ls w hl
      refine lv_iconst (v := 2) C.1 C.2.1 (dk_at dkX6_looked 11 rfl) (by decide) ?_
      obtain ⟨fault_23, wrongAt_24, hq25, hf⟩ := bd2_at hf
      refine r_rwv (As := [.int y20, .int 2]) (rest := []) (wr := []) (ws' := wM g a_m st now isKept hearers draft dHearers dWalls toldWinds tape taped pos frm sort value fault_23 wrongAt_24 landed landedIn stepped isThere isAt isNext landSum heardSum allWays ways drawn lanes sizes cells torn before) C (kX6_needs l g _ a_m st now isKept hearers draft dHearers dWalls toldWinds tape taped pos frm sort value fault wrongAt landed landedIn stepped isThere isAt isNext landSum heardSum allWays ways drawn lanes sizes cells torn before y20 2 fault_23 wrongAt_24 hq25) (cwV0 C (inr13 _ (List.mem_of_getElem? (i := 12) rfl)) mwX6_needs hdX6_needs ⟨Nat.le_of_ble_eq_true rfl, Nat.le_of_ble_eq_true rfl⟩) hK w hA [0, 1, 2, 3, 4, 5, 6, 7, 8, 9, 10, 11, 12, 13, 14, 15, 16, 17] [] [0, 1, 2, 3, 4, 5, 6, 7, 8, 9, 10, 11, 12, 13, 14, 15, 16, 17] (by decide) rfl rfl (by decide) (by decide) rfl (by decide) rfl rfl rfl hl.1 rfl (Nat.le_of_ble_eq_true rfl) ⟨Nat.zero_le _, Nat.zero_le _⟩ (dk_at dkX6_looked 12 rfl) (fun H locs w => ?_)
      cases hf
      exact J4 _ _ _ w (lv_sub hl [0, 1, 2] rfl)
    clear hf
    have hf := hq21
    refine lv_icmp_ne (tgt := 20) C.1 C.2.1 (dk_at dkX6_looked 7 rfl) (by decide) (fun c26 => ?_) (fun c26 => ?_)
    · have hf := (if_neg c26).symm.trans hf
      refine lv_iconst (v := 0) C.1 C.2.1 (dk_at dkX6_looked 10 rfl) (by decide) ?_
      cases hf
      exact J22 _ _ _ w (lv_sub hl [0, 1, 2] rfl)
    · have hf := (if_pos c26).symm.trans hf
      refine lv_iconst (v := 1) C.1 C.2.1 (dk_at dkX6_looked 8 rfl) (by decide) ?_
      refine lv_goto (tgt := 21) C.1 C.2.1 (dk_at dkX6_looked 9 rfl) (by decide) ?_
      cases hf
      exact J22 _ _ _ w (lv_sub hl [0, 1, 2] rfl)
-- X6.lookedCell
abbrev tbX6_lookedCell : List (Nat × Instr × Nat) := [(0, .aload_n 0, 1), (1, .iconst 0, 1), (2, .bipush 77, 2), (4, .invokevirtual 136, 3), (7, .istore_n 1, 1), (8, .aload_n 0, 1), (9, .getfield 90, 3), (12, .ifCond .ne 12, 3), (15, .aload_n 0, 1), (16, .iload_n 1, 1), (17, .invokestatic 140, 3), (20, .iconst 3, 1), (21, .invokevirtual 132, 3), (24, .aload_n 0, 1), (25, .getfield 90, 3), (28, .ifCond .ne 7, 3), (31, .iload_n 1, 1), (32, .goto 4, 3), (35, .iconst 0, 1), (36, .ireturn, 1)]
theorem dkX6_lookedCell : dk cX6_lookedCell tbX6_lookedCell := dk_of (by decide +kernel)
abbrev cdX6_lookedCell : Cond := Cond.code yX6_lookedCell cX6_lookedCell 2 (some .int)
abbrev rmX6_lookedCell : Room := { frames := 2, cells := 0, slots := 0, locals := 47 }
theorem mwX6_lookedCell : Cond.instanceMethod yX6_lookedCell ∈ wsL_law ∧ Cond.selects RX6 yX6_lookedCell yX6_lookedCell ∈ wsL_law ∧ Cond.initialized RX6 ∈ wsL_law ∧ cdX6_lookedCell ∈ wsL_law := ⟨inr15 _ (List.mem_of_getElem? (i := 1) rfl), inr15 _ (List.mem_of_getElem? (i := 2) rfl), inr1 _ (List.mem_of_getElem? (i := 5) rfl), inr15 _ (List.mem_of_getElem? (i := 3) rfl)⟩
theorem hdX6_lookedCell : yX6_lookedCell.cls = RX6 ∧ yX6_lookedCell.cls ≠ "java/lang/invoke/MethodHandle" ∧ yX6_lookedCell.cls ≠ "java/lang/invoke/VarHandle" ∧ (parseMethodDescriptor yX6_lookedCell.desc).map (fun d => d.parameters.length) = some 0 := by decide +kernel
set_option maxHeartbeats 4000000 in
set_option maxRecDepth 100000 in
theorem kX6_lookedCell (l : Launch) (g : Gx) (sz : Nat) (a_m : Nat → Nat) (st : AI) (now : AI) (isKept : AI) (hearers : Int32) (draft : AI) (dHearers : Int32) (dWalls : Int32) (toldWinds : Int32) (tape : AI) (taped : Int32) (pos : Int32) (frm : Int32) (sort : Int32) (value : Int32) (fault : Int32) (wrongAt : Int32) (landed : AI) (landedIn : AI) (stepped : AI) (isThere : AI) (isAt : AI) (isNext : AI) (landSum : Int64) (heardSum : Int64) (allWays : Int64) (ways : AI) (drawn : AI) (lanes : AI) (sizes : AI) (cells : AI) (torn : Int32) (before : AI) (res : Int32) (fault_o : Int32) (wrongAt_o : Int32) (hf : fX6_lookedCell frm sort value fault wrongAt = some (res, fault_o, wrongAt_o)) : Met l yX6_lookedCell (cdX6_lookedCell :: wsL_law) rmX6_lookedCell (va_Pc [.ref (a_m 0)] (RWp g sz (wM g a_m st now isKept hearers draft dHearers dWalls toldWinds tape taped pos frm sort value fault wrongAt landed landedIn stepped isThere isAt isNext landSum heardSum allWays ways drawn lanes sizes cells torn before))) (va_Qi (fun x (_ : Unit) => x = res) (fun _ => RWq g (va_A (wM g a_m st now isKept hearers draft dHearers dWalls toldWinds tape taped pos frm sort value fault wrongAt landed landedIn stepped isThere isAt isNext landSum heardSum allWays ways drawn lanes sizes cells torn before) sz) (wM g a_m st now isKept hearers draft dHearers dWalls toldWinds tape taped pos frm sort value fault_o wrongAt_o landed landedIn stepped isThere isAt isNext landSum heardSum allWays ways drawn lanes sizes cells torn before)) (va_A (wM g a_m st now isKept hearers draft dHearers dWalls toldWinds tape taped pos frm sort value fault wrongAt landed landedIn stepped isThere isAt isNext landSum heardSum allWays ways drawn lanes sizes cells torn before) sz)) 0 0 (va_A (wM g a_m st now isKept hearers draft dHearers dWalls toldWinds tape taped pos frm sort value fault wrongAt landed landedIn stepped isThere isAt isNext landSum heardSum allWays ways drawn lanes sizes cells torn before) sz) := by
  refine Met_rwi (cc := cX6_lookedCell) (maxL := 2) (by decide) rfl (Nat.le_of_ble_eq_true rfl) ?_
  intro P E Z Mi AR BE ME CO A Q C hK hA fin w ls hl
  have hl : lv_has ls 2 [(0, .ref (a_m 0))] := hl
  unfold fX6_lookedCell at hf
  refine lv_aload_n C.1 C.2.1 (dk_at dkX6_lookedCell 0 rfl) rfl (lv_at hl 0 rfl) ?_
  refine lv_iconst (v := 0) C.1 C.2.1 (dk_at dkX6_lookedCell 1 rfl) (by decide) ?_
  refine lv_bipush (v := 77) C.1 C.2.1 (dk_at dkX6_lookedCell 2 rfl) (by decide) ?_
  obtain ⟨r1, fault_2, wrongAt_3, hq4, hf⟩ := bd3_at hf
  refine r_rwi (As := [.int 0, .int 77]) (rest := []) (wr := []) (ws' := wM g a_m st now isKept hearers draft dHearers dWalls toldWinds tape taped pos frm sort value fault_2 wrongAt_3 landed landedIn stepped isThere isAt isNext landSum heardSum allWays ways drawn lanes sizes cells torn before) C (kX6_looked l g _ a_m st now isKept hearers draft dHearers dWalls toldWinds tape taped pos frm sort value fault wrongAt landed landedIn stepped isThere isAt isNext landSum heardSum allWays ways drawn lanes sizes cells torn before 0 77 r1 fault_2 wrongAt_3 hq4) (cwV0 C (inr15 _ (List.mem_of_getElem? (i := 4) rfl)) mwX6_looked hdX6_looked ⟨Nat.le_of_ble_eq_true rfl, Nat.le_of_ble_eq_true rfl⟩) hK w hA [0, 1, 2, 3, 4, 5, 6, 7, 8, 9, 10, 11, 12, 13, 14, 15, 16, 17] [] [0, 1, 2, 3, 4, 5, 6, 7, 8, 9, 10, 11, 12, 13, 14, 15, 16, 17] (by decide) rfl rfl (by decide) (by decide) rfl (by decide) rfl rfl rfl hl.1 rfl (Nat.le_of_ble_eq_true rfl) ⟨Nat.zero_le _, Nat.zero_le _⟩ (dk_at dkX6_lookedCell 3 rfl) (fun H locs w => ?_)
  refine lv_istore_n (lv' := [(1, .int r1), (0, .ref (a_m 0))]) C.1 C.2.1 (dk_at dkX6_lookedCell 4 rfl) rfl hl (by decide) rfl (fun ls hl => ?_)
  refine lv_aload_n C.1 C.2.1 (dk_at dkX6_lookedCell 5 rfl) rfl (lv_at hl 1 rfl) ?_
  refine r_get (v := .int fault_2) C hK w.1 (fun w h => List.mem_cons_of_mem _ (inlX6 w h)) 0 rfl rfl 14 (by decide) (List.mem_cons_of_mem _ (inr12 _ (List.mem_of_getElem? (i := 18) rfl))) rfl (dk_at dkX6_lookedCell 6 rfl) ?_
  obtain ⟨fault_5, wrongAt_6, hq7, hf⟩ := bd2_at hf
  have J8 : ∀ (H : Heap) (locs : List Loc) (ls : Array Slot), Wd g A Z.heap (wM g a_m st now isKept hearers draft dHearers dWalls toldWinds tape taped pos frm sort value fault_5 wrongAt_6 landed landedIn stepped isThere isAt isNext landSum heardSum allWays ways drawn lanes sizes cells torn before) H locs → lv_has ls 2 [(1, .int r1), (0, .ref (a_m 0))] → W P l E rmX6_lookedCell Z Mi AR BE ME CO H locs 0 0 Q (F0 Mi 24 ls []) := by
    intro H locs ls w hl
    refine lv_aload_n C.1 C.2.1 (dk_at dkX6_lookedCell 13 rfl) rfl (lv_at hl 1 rfl) ?_
    refine r_get (v := .int fault_5) C hK w.1 (fun w h => List.mem_cons_of_mem _ (inlX6 w h)) 0 rfl rfl 14 (by decide) (List.mem_cons_of_mem _ (inr12 _ (List.mem_of_getElem? (i := 18) rfl))) rfl (dk_at dkX6_lookedCell 14 rfl) ?_
    refine lv_if_ne (tgt := 35) C.1 C.2.1 (dk_at dkX6_lookedCell 15 rfl) (by decide) (fun c9 => ?_) (fun c9 => ?_)
    · have hf := (if_neg c9).symm.trans hf
      refine lv_iconst (v := 0) C.1 C.2.1 (dk_at dkX6_lookedCell 18 rfl) (by decide) ?_
      cases hf
      exact fin _ _ _ _ _ (dk_at dkX6_lookedCell 19 rfl) rfl w
    · have hf := (if_pos c9).symm.trans hf
      refine lv_iload_n C.1 C.2.1 (dk_at dkX6_lookedCell 16 rfl) rfl (lv_at hl 0 rfl) ?_
      refine lv_goto (tgt := 36) C.1 C.2.1 (dk_at dkX6_lookedCell 17 rfl) (by decide) ?_
      cases hf
      exact fin _ _ _ _ _ (dk_at dkX6_lookedCell 19 rfl) rfl w
  clear hf
  have hf := hq7
  refine lv_if_ne (tgt := 24) C.1 C.2.1 (dk_at dkX6_lookedCell 7 rfl) (by decide) (fun c10 => ?_) (fun c10 => ?_)
  · have hf := (if_neg c10).symm.trans hf
    cases hf
    exact J8 _ _ _ w (lv_sub hl [0, 1] rfl)
  · have hf := (if_pos c10).symm.trans hf
    refine lv_aload_n C.1 C.2.1 (dk_at dkX6_lookedCell 8 rfl) rfl (lv_at hl 1 rfl) ?_
    refine lv_iload_n C.1 C.2.1 (dk_at dkX6_lookedCell 9 rfl) rfl (lv_at hl 0 rfl) ?_
    obtain ⟨r11, hq12, hf⟩ := bd1_at hf
    refine r_st (As := [.int r1]) (rest := [.ref (a_m 0)]) C (kX6_isCell l r1 r11 hq12) (cwS0 C (inr15 _ (List.mem_of_getElem? (i := 8) rfl)) mwX6_isCell hdX6_isCell ⟨Nat.le_of_ble_eq_true rfl, Nat.le_of_ble_eq_true rfl⟩) rfl hl.1 rfl (Nat.le_of_ble_eq_true rfl) ⟨Nat.zero_le _, Nat.zero_le _⟩ (dk_at dkX6_lookedCell 10 rfl) ?_
    refine lv_iconst (v := 3) C.1 C.2.1 (dk_at dkX6_lookedCell 11 rfl) (by decide) ?_
    obtain ⟨fault_13, wrongAt_14, hq15, hf⟩ := bd2_at hf
    refine r_rwv (As := [.int r11, .int 3]) (rest := []) (wr := []) (ws' := wM g a_m st now isKept hearers draft dHearers dWalls toldWinds tape taped pos frm sort value fault_13 wrongAt_14 landed landedIn stepped isThere isAt isNext landSum heardSum allWays ways drawn lanes sizes cells torn before) C (kX6_needs l g _ a_m st now isKept hearers draft dHearers dWalls toldWinds tape taped pos frm sort value fault_2 wrongAt_3 landed landedIn stepped isThere isAt isNext landSum heardSum allWays ways drawn lanes sizes cells torn before r11 3 fault_13 wrongAt_14 hq15) (cwV0 C (inr13 _ (List.mem_of_getElem? (i := 12) rfl)) mwX6_needs hdX6_needs ⟨Nat.le_of_ble_eq_true rfl, Nat.le_of_ble_eq_true rfl⟩) hK w hA [0, 1, 2, 3, 4, 5, 6, 7, 8, 9, 10, 11, 12, 13, 14, 15, 16, 17] [] [0, 1, 2, 3, 4, 5, 6, 7, 8, 9, 10, 11, 12, 13, 14, 15, 16, 17] (by decide) rfl rfl (by decide) (by decide) rfl (by decide) rfl rfl rfl hl.1 rfl (Nat.le_of_ble_eq_true rfl) ⟨Nat.zero_le _, Nat.zero_le _⟩ (dk_at dkX6_lookedCell 12 rfl) (fun H locs w => ?_)
    cases hf
    exact J8 _ _ _ w (lv_sub hl [0, 1] rfl)
-- X6.readNumber
abbrev tbX6_readNumber : List (Nat × Instr × Nat) := [(0, .aload_n 0, 1), (1, .iload_n 1, 1), (2, .iload_n 2, 1), (3, .invokevirtual 136, 3), (6, .istore_n 3, 1), (7, .aload_n 0, 1), (8, .invokevirtual 144, 3), (11, .iload_n 3, 1), (12, .ireturn, 1)]
theorem dkX6_readNumber : dk cX6_readNumber tbX6_readNumber := dk_of (by decide +kernel)
abbrev cdX6_readNumber : Cond := Cond.code yX6_readNumber cX6_readNumber 4 (some .int)
abbrev rmX6_readNumber : Room := { frames := 2, cells := 0, slots := 0, locals := 47 }
theorem mwX6_readNumber : Cond.instanceMethod yX6_readNumber ∈ wsL_law ∧ Cond.selects RX6 yX6_readNumber yX6_readNumber ∈ wsL_law ∧ Cond.initialized RX6 ∈ wsL_law ∧ cdX6_readNumber ∈ wsL_law := ⟨inr15 _ (List.mem_of_getElem? (i := 16) rfl), inr15 _ (List.mem_of_getElem? (i := 17) rfl), inr1 _ (List.mem_of_getElem? (i := 5) rfl), inr15 _ (List.mem_of_getElem? (i := 18) rfl)⟩
theorem hdX6_readNumber : yX6_readNumber.cls = RX6 ∧ yX6_readNumber.cls ≠ "java/lang/invoke/MethodHandle" ∧ yX6_readNumber.cls ≠ "java/lang/invoke/VarHandle" ∧ (parseMethodDescriptor yX6_readNumber.desc).map (fun d => d.parameters.length) = some 2 := by decide +kernel
set_option maxHeartbeats 4000000 in
set_option maxRecDepth 100000 in
theorem kX6_readNumber (l : Launch) (g : Gx) (sz : Nat) (a_m : Nat → Nat) (st : AI) (now : AI) (isKept : AI) (hearers : Int32) (draft : AI) (dHearers : Int32) (dWalls : Int32) (toldWinds : Int32) (tape : AI) (taped : Int32) (pos : Int32) (frm : Int32) (sort : Int32) (value : Int32) (fault : Int32) (wrongAt : Int32) (landed : AI) (landedIn : AI) (stepped : AI) (isThere : AI) (isAt : AI) (isNext : AI) (landSum : Int64) (heardSum : Int64) (allWays : Int64) (ways : AI) (drawn : AI) (lanes : AI) (sizes : AI) (cells : AI) (torn : Int32) (before : AI) (p1 : Int32) (p2 : Int32) (res : Int32) (pos_o : Int32) (frm_o : Int32) (sort_o : Int32) (value_o : Int32) (fault_o : Int32) (wrongAt_o : Int32) (hf : fX6_readNumber p1 p2 tape taped pos frm sort value fault wrongAt = some (res, pos_o, frm_o, sort_o, value_o, fault_o, wrongAt_o)) : Met l yX6_readNumber (cdX6_readNumber :: wsL_law) rmX6_readNumber (va_Pc [.ref (a_m 0), .int p1, .int p2] (RWp g sz (wM g a_m st now isKept hearers draft dHearers dWalls toldWinds tape taped pos frm sort value fault wrongAt landed landedIn stepped isThere isAt isNext landSum heardSum allWays ways drawn lanes sizes cells torn before))) (va_Qi (fun x (_ : Unit) => x = res) (fun _ => RWq g (va_A (wM g a_m st now isKept hearers draft dHearers dWalls toldWinds tape taped pos frm sort value fault wrongAt landed landedIn stepped isThere isAt isNext landSum heardSum allWays ways drawn lanes sizes cells torn before) sz) (wM g a_m st now isKept hearers draft dHearers dWalls toldWinds tape taped pos_o frm_o sort_o value_o fault_o wrongAt_o landed landedIn stepped isThere isAt isNext landSum heardSum allWays ways drawn lanes sizes cells torn before)) (va_A (wM g a_m st now isKept hearers draft dHearers dWalls toldWinds tape taped pos frm sort value fault wrongAt landed landedIn stepped isThere isAt isNext landSum heardSum allWays ways drawn lanes sizes cells torn before) sz)) 0 0 (va_A (wM g a_m st now isKept hearers draft dHearers dWalls toldWinds tape taped pos frm sort value fault wrongAt landed landedIn stepped isThere isAt isNext landSum heardSum allWays ways drawn lanes sizes cells torn before) sz) := by
  refine Met_rwi (cc := cX6_readNumber) (maxL := 4) (by decide) rfl (Nat.le_of_ble_eq_true rfl) ?_
  intro P E Z Mi AR BE ME CO A Q C hK hA fin w ls hl
  have hl : lv_has ls 4 [(0, .ref (a_m 0)), (1, .int p1), (2, .int p2)] := hl
  unfold fX6_readNumber at hf
  refine lv_aload_n C.1 C.2.1 (dk_at dkX6_readNumber 0 rfl) rfl (lv_at hl 0 rfl) ?_
  refine lv_iload_n C.1 C.2.1 (dk_at dkX6_readNumber 1 rfl) rfl (lv_at hl 1 rfl) ?_
  refine lv_iload_n C.1 C.2.1 (dk_at dkX6_readNumber 2 rfl) rfl (lv_at hl 2 rfl) ?_
  obtain ⟨r1, fault_2, wrongAt_3, hq4, hf⟩ := bd3_at hf
  refine r_rwi (As := [.int p1, .int p2]) (rest := []) (wr := []) (ws' := wM g a_m st now isKept hearers draft dHearers dWalls toldWinds tape taped pos frm sort value fault_2 wrongAt_3 landed landedIn stepped isThere isAt isNext landSum heardSum allWays ways drawn lanes sizes cells torn before) C (kX6_looked l g _ a_m st now isKept hearers draft dHearers dWalls toldWinds tape taped pos frm sort value fault wrongAt landed landedIn stepped isThere isAt isNext landSum heardSum allWays ways drawn lanes sizes cells torn before p1 p2 r1 fault_2 wrongAt_3 hq4) (cwV0 C (inr15 _ (List.mem_of_getElem? (i := 4) rfl)) mwX6_looked hdX6_looked ⟨Nat.le_of_ble_eq_true rfl, Nat.le_of_ble_eq_true rfl⟩) hK w hA [0, 1, 2, 3, 4, 5, 6, 7, 8, 9, 10, 11, 12, 13, 14, 15, 16, 17] [] [0, 1, 2, 3, 4, 5, 6, 7, 8, 9, 10, 11, 12, 13, 14, 15, 16, 17] (by decide) rfl rfl (by decide) (by decide) rfl (by decide) rfl rfl rfl hl.1 rfl (Nat.le_of_ble_eq_true rfl) ⟨Nat.zero_le _, Nat.zero_le _⟩ (dk_at dkX6_readNumber 3 rfl) (fun H locs w => ?_)
  refine lv_istore_n (lv' := [(3, .int r1), (0, .ref (a_m 0)), (1, .int p1), (2, .int p2)]) C.1 C.2.1 (dk_at dkX6_readNumber 4 rfl) rfl hl (by decide) rfl (fun ls hl => ?_)
  refine lv_aload_n C.1 C.2.1 (dk_at dkX6_readNumber 5 rfl) rfl (lv_at hl 1 rfl) ?_
  obtain ⟨pos_5, frm_6, sort_7, value_8, fault_9, wrongAt_10, hq11, hf⟩ := bd6_at hf
  refine r_rwv (As := []) (rest := []) (wr := []) (ws' := wM g a_m st now isKept hearers draft dHearers dWalls toldWinds tape taped pos_5 frm_6 sort_7 value_8 fault_9 wrongAt_10 landed landedIn stepped isThere isAt isNext landSum heardSum allWays ways drawn lanes sizes cells torn before) C (kX6_takes l g _ a_m st now isKept hearers draft dHearers dWalls toldWinds tape taped pos frm sort value fault_2 wrongAt_3 landed landedIn stepped isThere isAt isNext landSum heardSum allWays ways drawn lanes sizes cells torn before pos_5 frm_6 sort_7 value_8 fault_9 wrongAt_10 hq11) (cwV0 C (inr12 _ (List.mem_of_getElem? (i := 22) rfl)) mwX6_takes hdX6_takes ⟨Nat.le_of_ble_eq_true rfl, Nat.le_of_ble_eq_true rfl⟩) hK w hA [0, 1, 2, 3, 4, 5, 6, 7, 8, 9, 10, 11, 12, 13, 14, 15, 16, 17] [] [0, 1, 2, 3, 4, 5, 6, 7, 8, 9, 10, 11, 12, 13, 14, 15, 16, 17] (by decide) rfl rfl (by decide) (by decide) rfl (by decide) rfl rfl rfl hl.1 rfl (Nat.le_of_ble_eq_true rfl) ⟨Nat.zero_le _, Nat.zero_le _⟩ (dk_at dkX6_readNumber 6 rfl) (fun H locs w => ?_)
  refine lv_iload_n C.1 C.2.1 (dk_at dkX6_readNumber 7 rfl) rfl (lv_at hl 0 rfl) ?_
  cases hf
  exact fin _ _ _ _ _ (dk_at dkX6_readNumber 8 rfl) rfl w
-- X6.readCell
abbrev tbX6_readCell : List (Nat × Instr × Nat) := [(0, .aload_n 0, 1), (1, .invokevirtual 147, 3), (4, .istore_n 1, 1), (5, .aload_n 0, 1), (6, .invokevirtual 144, 3), (9, .iload_n 1, 1), (10, .ireturn, 1)]
theorem dkX6_readCell : dk cX6_readCell tbX6_readCell := dk_of (by decide +kernel)
abbrev cdX6_readCell : Cond := Cond.code yX6_readCell cX6_readCell 2 (some .int)
abbrev rmX6_readCell : Room := { frames := 3, cells := 0, slots := 0, locals := 68 }
theorem mwX6_readCell : Cond.instanceMethod yX6_readCell ∈ wsL_law ∧ Cond.selects RX6 yX6_readCell yX6_readCell ∈ wsL_law ∧ Cond.initialized RX6 ∈ wsL_law ∧ cdX6_readCell ∈ wsL_law := ⟨inr15 _ (List.mem_of_getElem? (i := 20) rfl), inr15 _ (List.mem_of_getElem? (i := 21) rfl), inr1 _ (List.mem_of_getElem? (i := 5) rfl), inr15 _ (List.mem_of_getElem? (i := 22) rfl)⟩
theorem hdX6_readCell : yX6_readCell.cls = RX6 ∧ yX6_readCell.cls ≠ "java/lang/invoke/MethodHandle" ∧ yX6_readCell.cls ≠ "java/lang/invoke/VarHandle" ∧ (parseMethodDescriptor yX6_readCell.desc).map (fun d => d.parameters.length) = some 0 := by decide +kernel
set_option maxHeartbeats 4000000 in
set_option maxRecDepth 100000 in
theorem kX6_readCell (l : Launch) (g : Gx) (sz : Nat) (a_m : Nat → Nat) (st : AI) (now : AI) (isKept : AI) (hearers : Int32) (draft : AI) (dHearers : Int32) (dWalls : Int32) (toldWinds : Int32) (tape : AI) (taped : Int32) (pos : Int32) (frm : Int32) (sort : Int32) (value : Int32) (fault : Int32) (wrongAt : Int32) (landed : AI) (landedIn : AI) (stepped : AI) (isThere : AI) (isAt : AI) (isNext : AI) (landSum : Int64) (heardSum : Int64) (allWays : Int64) (ways : AI) (drawn : AI) (lanes : AI) (sizes : AI) (cells : AI) (torn : Int32) (before : AI) (res : Int32) (pos_o : Int32) (frm_o : Int32) (sort_o : Int32) (value_o : Int32) (fault_o : Int32) (wrongAt_o : Int32) (hf : fX6_readCell tape taped pos frm sort value fault wrongAt = some (res, pos_o, frm_o, sort_o, value_o, fault_o, wrongAt_o)) : Met l yX6_readCell (cdX6_readCell :: wsL_law) rmX6_readCell (va_Pc [.ref (a_m 0)] (RWp g sz (wM g a_m st now isKept hearers draft dHearers dWalls toldWinds tape taped pos frm sort value fault wrongAt landed landedIn stepped isThere isAt isNext landSum heardSum allWays ways drawn lanes sizes cells torn before))) (va_Qi (fun x (_ : Unit) => x = res) (fun _ => RWq g (va_A (wM g a_m st now isKept hearers draft dHearers dWalls toldWinds tape taped pos frm sort value fault wrongAt landed landedIn stepped isThere isAt isNext landSum heardSum allWays ways drawn lanes sizes cells torn before) sz) (wM g a_m st now isKept hearers draft dHearers dWalls toldWinds tape taped pos_o frm_o sort_o value_o fault_o wrongAt_o landed landedIn stepped isThere isAt isNext landSum heardSum allWays ways drawn lanes sizes cells torn before)) (va_A (wM g a_m st now isKept hearers draft dHearers dWalls toldWinds tape taped pos frm sort value fault wrongAt landed landedIn stepped isThere isAt isNext landSum heardSum allWays ways drawn lanes sizes cells torn before) sz)) 0 0 (va_A (wM g a_m st now isKept hearers draft dHearers dWalls toldWinds tape taped pos frm sort value fault wrongAt landed landedIn stepped isThere isAt isNext landSum heardSum allWays ways drawn lanes sizes cells torn before) sz) := by
  refine Met_rwi (cc := cX6_readCell) (maxL := 2) (by decide) rfl (Nat.le_of_ble_eq_true rfl) ?_
  intro P E Z Mi AR BE ME CO A Q C hK hA fin w ls hl
  have hl : lv_has ls 2 [(0, .ref (a_m 0))] := hl
  unfold fX6_readCell at hf
  refine lv_aload_n C.1 C.2.1 (dk_at dkX6_readCell 0 rfl) rfl (lv_at hl 0 rfl) ?_
  obtain ⟨r1, fault_2, wrongAt_3, hq4, hf⟩ := bd3_at hf
  refine r_rwi (As := []) (rest := []) (wr := []) (ws' := wM g a_m st now isKept hearers draft dHearers dWalls toldWinds tape taped pos frm sort value fault_2 wrongAt_3 landed landedIn stepped isThere isAt isNext landSum heardSum allWays ways drawn lanes sizes cells torn before) C (kX6_lookedCell l g _ a_m st now isKept hearers draft dHearers dWalls toldWinds tape taped pos frm sort value fault wrongAt landed landedIn stepped isThere isAt isNext landSum heardSum allWays ways drawn lanes sizes cells torn before r1 fault_2 wrongAt_3 hq4) (cwV0 C (inr15 _ (List.mem_of_getElem? (i := 0) rfl)) mwX6_lookedCell hdX6_lookedCell ⟨Nat.le_of_ble_eq_true rfl, Nat.le_of_ble_eq_true rfl⟩) hK w hA [0, 1, 2, 3, 4, 5, 6, 7, 8, 9, 10, 11, 12, 13, 14, 15, 16, 17] [] [0, 1, 2, 3, 4, 5, 6, 7, 8, 9, 10, 11, 12, 13, 14, 15, 16, 17] (by decide) rfl rfl (by decide) (by decide) rfl (by decide) rfl rfl rfl hl.1 rfl (Nat.le_of_ble_eq_true rfl) ⟨Nat.zero_le _, Nat.zero_le _⟩ (dk_at dkX6_readCell 1 rfl) (fun H locs w => ?_)
  refine lv_istore_n (lv' := [(1, .int r1), (0, .ref (a_m 0))]) C.1 C.2.1 (dk_at dkX6_readCell 2 rfl) rfl hl (by decide) rfl (fun ls hl => ?_)
  refine lv_aload_n C.1 C.2.1 (dk_at dkX6_readCell 3 rfl) rfl (lv_at hl 1 rfl) ?_
  obtain ⟨pos_5, frm_6, sort_7, value_8, fault_9, wrongAt_10, hq11, hf⟩ := bd6_at hf
  refine r_rwv (As := []) (rest := []) (wr := []) (ws' := wM g a_m st now isKept hearers draft dHearers dWalls toldWinds tape taped pos_5 frm_6 sort_7 value_8 fault_9 wrongAt_10 landed landedIn stepped isThere isAt isNext landSum heardSum allWays ways drawn lanes sizes cells torn before) C (kX6_takes l g _ a_m st now isKept hearers draft dHearers dWalls toldWinds tape taped pos frm sort value fault_2 wrongAt_3 landed landedIn stepped isThere isAt isNext landSum heardSum allWays ways drawn lanes sizes cells torn before pos_5 frm_6 sort_7 value_8 fault_9 wrongAt_10 hq11) (cwV0 C (inr12 _ (List.mem_of_getElem? (i := 22) rfl)) mwX6_takes hdX6_takes ⟨Nat.le_of_ble_eq_true rfl, Nat.le_of_ble_eq_true rfl⟩) hK w hA [0, 1, 2, 3, 4, 5, 6, 7, 8, 9, 10, 11, 12, 13, 14, 15, 16, 17] [] [0, 1, 2, 3, 4, 5, 6, 7, 8, 9, 10, 11, 12, 13, 14, 15, 16, 17] (by decide) rfl rfl (by decide) (by decide) rfl (by decide) rfl rfl rfl hl.1 rfl (Nat.le_of_ble_eq_true rfl) ⟨Nat.zero_le _, Nat.zero_le _⟩ (dk_at dkX6_readCell 4 rfl) (fun H locs w => ?_)
  refine lv_iload_n C.1 C.2.1 (dk_at dkX6_readCell 5 rfl) rfl (lv_at hl 0 rfl) ?_
  cases hf
  exact fin _ _ _ _ _ (dk_at dkX6_readCell 6 rfl) rfl w
-- X6.readSaying
abbrev tbX6_readSaying : List (Nat × Instr × Nat) := [(0, .bipush 18, 2), (2, .iconst 5, 1), (3, .aload_n 0, 1), (4, .getfield 20, 3), (7, .bipush 43, 2), (9, .iaload, 1), (10, .imul, 1), (11, .iadd, 1), (12, .istore_n 2, 1), (13, .aload_n 0, 1), (14, .getfield 20, 3), (17, .iload_n 2, 1), (18, .iconst 0, 1), (19, .iadd, 1), (20, .iload_n 1, 1), (21, .iastore, 1), (22, .aload_n 0, 1), (23, .getfield 20, 3), (26, .iload_n 2, 1), (27, .iconst 1, 1), (28, .iadd, 1), (29, .aload_n 0, 1), (30, .invokevirtual 150, 3), (33, .iastore, 1), (34, .aload_n 0, 1), (35, .getfield 20, 3), (38, .iload_n 2, 1), (39, .iconst 2, 1), (40, .iadd, 1), (41, .aload_n 0, 1), (42, .iconst 0, 1), (43, .iconst 3, 1), (44, .invokevirtual 153, 3), (47, .iastore, 1), (48, .aload_n 0, 1), (49, .getfield 20, 3), (52, .iload_n 2, 1), (53, .iconst 3, 1), (54, .iadd, 1), (55, .aload_n 0, 1), (56, .iconst 1, 1), (57, .bipush 9, 2), (59, .invokevirtual 153, 3), (62, .iastore, 1), (63, .aload_n 0, 1), (64, .getfield 20, 3), (67, .iload_n 2, 1), (68, .iconst 4, 1), (69, .iadd, 1), (70, .aload_n 0, 1), (71, .iconst 0, 1), (72, .bipush 9, 2), (74, .invokevirtual 153, 3), (77, .iastore, 1), (78, .aload_n 0, 1), (79, .getfield 20, 3), (82, .bipush 43, 2), (84, .dup2, 1), (85, .iaload, 1), (86, .iconst 1, 1), (87, .iadd, 1), (88, .iastore, 1), (89, .return_, 1)]
theorem dkX6_readSaying : dk cX6_readSaying tbX6_readSaying := dk_of (by decide +kernel)
abbrev cdX6_readSaying : Cond := Cond.code yX6_readSaying cX6_readSaying 3 none
abbrev rmX6_readSaying : Room := { frames := 4, cells := 0, slots := 0, locals := 89 }
theorem mwX6_readSaying : Cond.instanceMethod yX6_readSaying ∈ wsL_law ∧ Cond.selects RX6 yX6_readSaying yX6_readSaying ∈ wsL_law ∧ Cond.initialized RX6 ∈ wsL_law ∧ cdX6_readSaying ∈ wsL_law := ⟨inr16 _ (List.mem_of_getElem? (i := 0) rfl), inr16 _ (List.mem_of_getElem? (i := 1) rfl), inr1 _ (List.mem_of_getElem? (i := 5) rfl), inr16 _ (List.mem_of_getElem? (i := 2) rfl)⟩
theorem hdX6_readSaying : yX6_readSaying.cls = RX6 ∧ yX6_readSaying.cls ≠ "java/lang/invoke/MethodHandle" ∧ yX6_readSaying.cls ≠ "java/lang/invoke/VarHandle" ∧ (parseMethodDescriptor yX6_readSaying.desc).map (fun d => d.parameters.length) = some 1 := by decide +kernel
set_option maxHeartbeats 4000000 in
set_option maxRecDepth 100000 in
theorem kX6_readSaying (l : Launch) (g : Gx) (sz : Nat) (a_m : Nat → Nat) (st : AI) (now : AI) (isKept : AI) (hearers : Int32) (draft : AI) (dHearers : Int32) (dWalls : Int32) (toldWinds : Int32) (tape : AI) (taped : Int32) (pos : Int32) (frm : Int32) (sort : Int32) (value : Int32) (fault : Int32) (wrongAt : Int32) (landed : AI) (landedIn : AI) (stepped : AI) (isThere : AI) (isAt : AI) (isNext : AI) (landSum : Int64) (heardSum : Int64) (allWays : Int64) (ways : AI) (drawn : AI) (lanes : AI) (sizes : AI) (cells : AI) (torn : Int32) (before : AI) (p1 : Int32) (draft_o : AI) (pos_o : Int32) (frm_o : Int32) (sort_o : Int32) (value_o : Int32) (fault_o : Int32) (wrongAt_o : Int32) (hf : fX6_readSaying p1 draft tape taped pos frm sort value fault wrongAt = some (draft_o, pos_o, frm_o, sort_o, value_o, fault_o, wrongAt_o)) : Met l yX6_readSaying (cdX6_readSaying :: wsL_law) rmX6_readSaying (va_Pc [.ref (a_m 0), .int p1] (RWp g sz (wM g a_m st now isKept hearers draft dHearers dWalls toldWinds tape taped pos frm sort value fault wrongAt landed landedIn stepped isThere isAt isNext landSum heardSum allWays ways drawn lanes sizes cells torn before))) (va_Qv (fun _ : Unit => True) (fun _ => RWq g (va_A (wM g a_m st now isKept hearers draft dHearers dWalls toldWinds tape taped pos frm sort value fault wrongAt landed landedIn stepped isThere isAt isNext landSum heardSum allWays ways drawn lanes sizes cells torn before) sz) (wM g a_m st now isKept hearers draft_o dHearers dWalls toldWinds tape taped pos_o frm_o sort_o value_o fault_o wrongAt_o landed landedIn stepped isThere isAt isNext landSum heardSum allWays ways drawn lanes sizes cells torn before)) (va_A (wM g a_m st now isKept hearers draft dHearers dWalls toldWinds tape taped pos frm sort value fault wrongAt landed landedIn stepped isThere isAt isNext landSum heardSum allWays ways drawn lanes sizes cells torn before) sz)) 0 0 (va_A (wM g a_m st now isKept hearers draft dHearers dWalls toldWinds tape taped pos frm sort value fault wrongAt landed landedIn stepped isThere isAt isNext landSum heardSum allWays ways drawn lanes sizes cells torn before) sz) := by
  refine Met_rwv (cc := cX6_readSaying) (maxL := 3) (by decide) rfl (Nat.le_of_ble_eq_true rfl) ?_
  intro P E Z Mi AR BE ME CO A Q C hK hA fin w ls hl
  have hl : lv_has ls 3 [(0, .ref (a_m 0)), (1, .int p1)] := hl
  unfold fX6_readSaying at hf
  refine lv_bipush (v := 18) C.1 C.2.1 (dk_at dkX6_readSaying 0 rfl) (by decide) ?_
  refine lv_iconst (v := 5) C.1 C.2.1 (dk_at dkX6_readSaying 1 rfl) (by decide) ?_
  refine lv_aload_n C.1 C.2.1 (dk_at dkX6_readSaying 2 rfl) rfl (lv_at hl 0 rfl) ?_
  refine r_get (v := .ref (a_m 4)) C hK w.1 (fun w h => List.mem_cons_of_mem _ (inlX6 w h)) 0 rfl rfl 4 (by decide) (List.mem_cons_of_mem _ (inr4 _ (List.mem_of_getElem? (i := 7) rfl))) rfl (dk_at dkX6_readSaying 3 rfl) ?_
  refine lv_bipush (v := 43) C.1 C.2.1 (dk_at dkX6_readSaying 4 rfl) (by decide) ?_
  refine r_iald (k := 43) (f := draft) C hK w.1 4 rfl (in_c (by decide)) (by decide) (dk_at dkX6_readSaying 5 rfl) ?_
  refine lv_imul C.1 C.2.1 (dk_at dkX6_readSaying 6 rfl) ?_
  refine lv_iadd C.1 C.2.1 (dk_at dkX6_readSaying 7 rfl) ?_
  refine lv_topi (fun x1 ex1 => ?_)
  have hf := nm_at ex1 hf
  refine lv_istore_n (lv' := [(2, .int x1), (0, .ref (a_m 0)), (1, .int p1)]) C.1 C.2.1 (dk_at dkX6_readSaying 8 rfl) rfl hl (by decide) rfl (fun ls hl => ?_)
  refine lv_aload_n C.1 C.2.1 (dk_at dkX6_readSaying 9 rfl) rfl (lv_at hl 1 rfl) ?_
  refine r_get (v := .ref (a_m 4)) C hK w.1 (fun w h => List.mem_cons_of_mem _ (inlX6 w h)) 0 rfl rfl 4 (by decide) (List.mem_cons_of_mem _ (inr4 _ (List.mem_of_getElem? (i := 7) rfl))) rfl (dk_at dkX6_readSaying 10 rfl) ?_
  refine lv_iload_n C.1 C.2.1 (dk_at dkX6_readSaying 11 rfl) rfl (lv_at hl 0 rfl) ?_
  refine lv_iconst (v := 0) C.1 C.2.1 (dk_at dkX6_readSaying 12 rfl) (by decide) ?_
  refine lv_iadd C.1 C.2.1 (dk_at dkX6_readSaying 13 rfl) ?_
  refine lv_topi (fun x2 ex2 => ?_)
  have hf := nm_at ex2 hf
  refine lv_iload_n C.1 C.2.1 (dk_at dkX6_readSaying 14 rfl) rfl (lv_at hl 2 rfl) ?_
  obtain ⟨h3, hf⟩ := gd_at hf
  refine r_iast (k := x2.toNatClampNeg) (f := draft) C hK w 4 rfl h3 rfl (dk_at dkX6_readSaying 15 rfl) (fun H locs w => ?_)
  obtain ⟨draft_4, edraft_4⟩ : ∃ z : AI, z = upd draft x2.toNatClampNeg p1 := ⟨_, rfl⟩
  have hf := nm_at edraft_4 hf
  have w : Wd g A Z.heap (wM g a_m st now isKept hearers draft_4 dHearers dWalls toldWinds tape taped pos frm sort value fault wrongAt landed landedIn stepped isThere isAt isNext landSum heardSum allWays ways drawn lanes sizes cells torn before) H locs := by rw [edraft_4]; exact w
  refine lv_aload_n C.1 C.2.1 (dk_at dkX6_readSaying 16 rfl) rfl (lv_at hl 1 rfl) ?_
  refine r_get (v := .ref (a_m 4)) C hK w.1 (fun w h => List.mem_cons_of_mem _ (inlX6 w h)) 0 rfl rfl 4 (by decide) (List.mem_cons_of_mem _ (inr4 _ (List.mem_of_getElem? (i := 7) rfl))) rfl (dk_at dkX6_readSaying 17 rfl) ?_
  refine lv_iload_n C.1 C.2.1 (dk_at dkX6_readSaying 18 rfl) rfl (lv_at hl 0 rfl) ?_
  refine lv_iconst (v := 1) C.1 C.2.1 (dk_at dkX6_readSaying 19 rfl) (by decide) ?_
  refine lv_iadd C.1 C.2.1 (dk_at dkX6_readSaying 20 rfl) ?_
  refine lv_topi (fun x5 ex5 => ?_)
  have hf := nm_at ex5 hf
  refine lv_aload_n C.1 C.2.1 (dk_at dkX6_readSaying 21 rfl) rfl (lv_at hl 1 rfl) ?_
  obtain ⟨r6, pos_7, frm_8, sort_9, value_10, fault_11, wrongAt_12, hq13, hf⟩ := bd7_at hf
  refine r_rwi (As := []) (rest := [.int x5, .ref (a_m 4)]) (wr := []) (ws' := wM g a_m st now isKept hearers draft_4 dHearers dWalls toldWinds tape taped pos_7 frm_8 sort_9 value_10 fault_11 wrongAt_12 landed landedIn stepped isThere isAt isNext landSum heardSum allWays ways drawn lanes sizes cells torn before) C (kX6_readCell l g _ a_m st now isKept hearers draft_4 dHearers dWalls toldWinds tape taped pos frm sort value fault wrongAt landed landedIn stepped isThere isAt isNext landSum heardSum allWays ways drawn lanes sizes cells torn before r6 pos_7 frm_8 sort_9 value_10 fault_11 wrongAt_12 hq13) (cwV0 C (inr15 _ (List.mem_of_getElem? (i := 19) rfl)) mwX6_readCell hdX6_readCell ⟨Nat.le_of_ble_eq_true rfl, Nat.le_of_ble_eq_true rfl⟩) hK w hA [0, 1, 2, 3, 4, 5, 6, 7, 8, 9, 10, 11, 12, 13, 14, 15, 16, 17] [] [0, 1, 2, 3, 4, 5, 6, 7, 8, 9, 10, 11, 12, 13, 14, 15, 16, 17] (by decide) rfl rfl (by decide) (by decide) rfl (by decide) rfl rfl rfl hl.1 rfl (Nat.le_of_ble_eq_true rfl) ⟨Nat.zero_le _, Nat.zero_le _⟩ (dk_at dkX6_readSaying 22 rfl) (fun H locs w => ?_)
  obtain ⟨h14, hf⟩ := gd_at hf
  refine r_iast (k := x5.toNatClampNeg) (f := draft_4) C hK w 4 rfl h14 rfl (dk_at dkX6_readSaying 23 rfl) (fun H locs w => ?_)
  obtain ⟨draft_15, edraft_15⟩ : ∃ z : AI, z = upd draft_4 x5.toNatClampNeg r6 := ⟨_, rfl⟩
  have hf := nm_at edraft_15 hf
  have w : Wd g A Z.heap (wM g a_m st now isKept hearers draft_15 dHearers dWalls toldWinds tape taped pos_7 frm_8 sort_9 value_10 fault_11 wrongAt_12 landed landedIn stepped isThere isAt isNext landSum heardSum allWays ways drawn lanes sizes cells torn before) H locs := by rw [edraft_15]; exact w
  refine lv_aload_n C.1 C.2.1 (dk_at dkX6_readSaying 24 rfl) rfl (lv_at hl 1 rfl) ?_
  refine r_get (v := .ref (a_m 4)) C hK w.1 (fun w h => List.mem_cons_of_mem _ (inlX6 w h)) 0 rfl rfl 4 (by decide) (List.mem_cons_of_mem _ (inr4 _ (List.mem_of_getElem? (i := 7) rfl))) rfl (dk_at dkX6_readSaying 25 rfl) ?_
  refine lv_iload_n C.1 C.2.1 (dk_at dkX6_readSaying 26 rfl) rfl (lv_at hl 0 rfl) ?_
  refine lv_iconst (v := 2) C.1 C.2.1 (dk_at dkX6_readSaying 27 rfl) (by decide) ?_
  refine lv_iadd C.1 C.2.1 (dk_at dkX6_readSaying 28 rfl) ?_
  refine lv_topi (fun x16 ex16 => ?_)
  have hf := nm_at ex16 hf
  refine lv_aload_n C.1 C.2.1 (dk_at dkX6_readSaying 29 rfl) rfl (lv_at hl 1 rfl) ?_
  refine lv_iconst (v := 0) C.1 C.2.1 (dk_at dkX6_readSaying 30 rfl) (by decide) ?_
  refine lv_iconst (v := 3) C.1 C.2.1 (dk_at dkX6_readSaying 31 rfl) (by decide) ?_
  obtain ⟨r17, pos_18, frm_19, sort_20, value_21, fault_22, wrongAt_23, hq24, hf⟩ := bd7_at hf
  refine r_rwi (As := [.int 0, .int 3]) (rest := [.int x16, .ref (a_m 4)]) (wr := []) (ws' := wM g a_m st now isKept hearers draft_15 dHearers dWalls toldWinds tape taped pos_18 frm_19 sort_20 value_21 fault_22 wrongAt_23 landed landedIn stepped isThere isAt isNext landSum heardSum allWays ways drawn lanes sizes cells torn before) C (kX6_readNumber l g _ a_m st now isKept hearers draft_15 dHearers dWalls toldWinds tape taped pos_7 frm_8 sort_9 value_10 fault_11 wrongAt_12 landed landedIn stepped isThere isAt isNext landSum heardSum allWays ways drawn lanes sizes cells torn before 0 3 r17 pos_18 frm_19 sort_20 value_21 fault_22 wrongAt_23 hq24) (cwV0 C (inr15 _ (List.mem_of_getElem? (i := 15) rfl)) mwX6_readNumber hdX6_readNumber ⟨Nat.le_of_ble_eq_true rfl, Nat.le_of_ble_eq_true rfl⟩) hK w hA [0, 1, 2, 3, 4, 5, 6, 7, 8, 9, 10, 11, 12, 13, 14, 15, 16, 17] [] [0, 1, 2, 3, 4, 5, 6, 7, 8, 9, 10, 11, 12, 13, 14, 15, 16, 17] (by decide) rfl rfl (by decide) (by decide) rfl (by decide) rfl rfl rfl hl.1 rfl (Nat.le_of_ble_eq_true rfl) ⟨Nat.zero_le _, Nat.zero_le _⟩ (dk_at dkX6_readSaying 32 rfl) (fun H locs w => ?_)
  obtain ⟨h25, hf⟩ := gd_at hf
  refine r_iast (k := x16.toNatClampNeg) (f := draft_15) C hK w 4 rfl h25 rfl (dk_at dkX6_readSaying 33 rfl) (fun H locs w => ?_)
  obtain ⟨draft_26, edraft_26⟩ : ∃ z : AI, z = upd draft_15 x16.toNatClampNeg r17 := ⟨_, rfl⟩
  have hf := nm_at edraft_26 hf
  have w : Wd g A Z.heap (wM g a_m st now isKept hearers draft_26 dHearers dWalls toldWinds tape taped pos_18 frm_19 sort_20 value_21 fault_22 wrongAt_23 landed landedIn stepped isThere isAt isNext landSum heardSum allWays ways drawn lanes sizes cells torn before) H locs := by rw [edraft_26]; exact w
  refine lv_aload_n C.1 C.2.1 (dk_at dkX6_readSaying 34 rfl) rfl (lv_at hl 1 rfl) ?_
  refine r_get (v := .ref (a_m 4)) C hK w.1 (fun w h => List.mem_cons_of_mem _ (inlX6 w h)) 0 rfl rfl 4 (by decide) (List.mem_cons_of_mem _ (inr4 _ (List.mem_of_getElem? (i := 7) rfl))) rfl (dk_at dkX6_readSaying 35 rfl) ?_
  refine lv_iload_n C.1 C.2.1 (dk_at dkX6_readSaying 36 rfl) rfl (lv_at hl 0 rfl) ?_
  refine lv_iconst (v := 3) C.1 C.2.1 (dk_at dkX6_readSaying 37 rfl) (by decide) ?_
  refine lv_iadd C.1 C.2.1 (dk_at dkX6_readSaying 38 rfl) ?_
  refine lv_topi (fun x27 ex27 => ?_)
  have hf := nm_at ex27 hf
  refine lv_aload_n C.1 C.2.1 (dk_at dkX6_readSaying 39 rfl) rfl (lv_at hl 1 rfl) ?_
  refine lv_iconst (v := 1) C.1 C.2.1 (dk_at dkX6_readSaying 40 rfl) (by decide) ?_
  refine lv_bipush (v := 9) C.1 C.2.1 (dk_at dkX6_readSaying 41 rfl) (by decide) ?_
  obtain ⟨r28, pos_29, frm_30, sort_31, value_32, fault_33, wrongAt_34, hq35, hf⟩ := bd7_at hf
  refine r_rwi (As := [.int 1, .int 9]) (rest := [.int x27, .ref (a_m 4)]) (wr := []) (ws' := wM g a_m st now isKept hearers draft_26 dHearers dWalls toldWinds tape taped pos_29 frm_30 sort_31 value_32 fault_33 wrongAt_34 landed landedIn stepped isThere isAt isNext landSum heardSum allWays ways drawn lanes sizes cells torn before) C (kX6_readNumber l g _ a_m st now isKept hearers draft_26 dHearers dWalls toldWinds tape taped pos_18 frm_19 sort_20 value_21 fault_22 wrongAt_23 landed landedIn stepped isThere isAt isNext landSum heardSum allWays ways drawn lanes sizes cells torn before 1 9 r28 pos_29 frm_30 sort_31 value_32 fault_33 wrongAt_34 hq35) (cwV0 C (inr15 _ (List.mem_of_getElem? (i := 15) rfl)) mwX6_readNumber hdX6_readNumber ⟨Nat.le_of_ble_eq_true rfl, Nat.le_of_ble_eq_true rfl⟩) hK w hA [0, 1, 2, 3, 4, 5, 6, 7, 8, 9, 10, 11, 12, 13, 14, 15, 16, 17] [] [0, 1, 2, 3, 4, 5, 6, 7, 8, 9, 10, 11, 12, 13, 14, 15, 16, 17] (by decide) rfl rfl (by decide) (by decide) rfl (by decide) rfl rfl rfl hl.1 rfl (Nat.le_of_ble_eq_true rfl) ⟨Nat.zero_le _, Nat.zero_le _⟩ (dk_at dkX6_readSaying 42 rfl) (fun H locs w => ?_)
  obtain ⟨h36, hf⟩ := gd_at hf
  refine r_iast (k := x27.toNatClampNeg) (f := draft_26) C hK w 4 rfl h36 rfl (dk_at dkX6_readSaying 43 rfl) (fun H locs w => ?_)
  obtain ⟨draft_37, edraft_37⟩ : ∃ z : AI, z = upd draft_26 x27.toNatClampNeg r28 := ⟨_, rfl⟩
  have hf := nm_at edraft_37 hf
  have w : Wd g A Z.heap (wM g a_m st now isKept hearers draft_37 dHearers dWalls toldWinds tape taped pos_29 frm_30 sort_31 value_32 fault_33 wrongAt_34 landed landedIn stepped isThere isAt isNext landSum heardSum allWays ways drawn lanes sizes cells torn before) H locs := by rw [edraft_37]; exact w
  refine lv_aload_n C.1 C.2.1 (dk_at dkX6_readSaying 44 rfl) rfl (lv_at hl 1 rfl) ?_
  refine r_get (v := .ref (a_m 4)) C hK w.1 (fun w h => List.mem_cons_of_mem _ (inlX6 w h)) 0 rfl rfl 4 (by decide) (List.mem_cons_of_mem _ (inr4 _ (List.mem_of_getElem? (i := 7) rfl))) rfl (dk_at dkX6_readSaying 45 rfl) ?_
  refine lv_iload_n C.1 C.2.1 (dk_at dkX6_readSaying 46 rfl) rfl (lv_at hl 0 rfl) ?_
  refine lv_iconst (v := 4) C.1 C.2.1 (dk_at dkX6_readSaying 47 rfl) (by decide) ?_
  refine lv_iadd C.1 C.2.1 (dk_at dkX6_readSaying 48 rfl) ?_
  refine lv_topi (fun x38 ex38 => ?_)
  have hf := nm_at ex38 hf
  refine lv_aload_n C.1 C.2.1 (dk_at dkX6_readSaying 49 rfl) rfl (lv_at hl 1 rfl) ?_
  refine lv_iconst (v := 0) C.1 C.2.1 (dk_at dkX6_readSaying 50 rfl) (by decide) ?_
  refine lv_bipush (v := 9) C.1 C.2.1 (dk_at dkX6_readSaying 51 rfl) (by decide) ?_
  obtain ⟨r39, pos_40, frm_41, sort_42, value_43, fault_44, wrongAt_45, hq46, hf⟩ := bd7_at hf
  refine r_rwi (As := [.int 0, .int 9]) (rest := [.int x38, .ref (a_m 4)]) (wr := []) (ws' := wM g a_m st now isKept hearers draft_37 dHearers dWalls toldWinds tape taped pos_40 frm_41 sort_42 value_43 fault_44 wrongAt_45 landed landedIn stepped isThere isAt isNext landSum heardSum allWays ways drawn lanes sizes cells torn before) C (kX6_readNumber l g _ a_m st now isKept hearers draft_37 dHearers dWalls toldWinds tape taped pos_29 frm_30 sort_31 value_32 fault_33 wrongAt_34 landed landedIn stepped isThere isAt isNext landSum heardSum allWays ways drawn lanes sizes cells torn before 0 9 r39 pos_40 frm_41 sort_42 value_43 fault_44 wrongAt_45 hq46) (cwV0 C (inr15 _ (List.mem_of_getElem? (i := 15) rfl)) mwX6_readNumber hdX6_readNumber ⟨Nat.le_of_ble_eq_true rfl, Nat.le_of_ble_eq_true rfl⟩) hK w hA [0, 1, 2, 3, 4, 5, 6, 7, 8, 9, 10, 11, 12, 13, 14, 15, 16, 17] [] [0, 1, 2, 3, 4, 5, 6, 7, 8, 9, 10, 11, 12, 13, 14, 15, 16, 17] (by decide) rfl rfl (by decide) (by decide) rfl (by decide) rfl rfl rfl hl.1 rfl (Nat.le_of_ble_eq_true rfl) ⟨Nat.zero_le _, Nat.zero_le _⟩ (dk_at dkX6_readSaying 52 rfl) (fun H locs w => ?_)
  obtain ⟨h47, hf⟩ := gd_at hf
  refine r_iast (k := x38.toNatClampNeg) (f := draft_37) C hK w 4 rfl h47 rfl (dk_at dkX6_readSaying 53 rfl) (fun H locs w => ?_)
  obtain ⟨draft_48, edraft_48⟩ : ∃ z : AI, z = upd draft_37 x38.toNatClampNeg r39 := ⟨_, rfl⟩
  have hf := nm_at edraft_48 hf
  have w : Wd g A Z.heap (wM g a_m st now isKept hearers draft_48 dHearers dWalls toldWinds tape taped pos_40 frm_41 sort_42 value_43 fault_44 wrongAt_45 landed landedIn stepped isThere isAt isNext landSum heardSum allWays ways drawn lanes sizes cells torn before) H locs := by rw [edraft_48]; exact w
  refine lv_aload_n C.1 C.2.1 (dk_at dkX6_readSaying 54 rfl) rfl (lv_at hl 1 rfl) ?_
  refine r_get (v := .ref (a_m 4)) C hK w.1 (fun w h => List.mem_cons_of_mem _ (inlX6 w h)) 0 rfl rfl 4 (by decide) (List.mem_cons_of_mem _ (inr4 _ (List.mem_of_getElem? (i := 7) rfl))) rfl (dk_at dkX6_readSaying 55 rfl) ?_
  refine lv_bipush (v := 43) C.1 C.2.1 (dk_at dkX6_readSaying 56 rfl) (by decide) ?_
  refine lv_dup2_11 C.1 C.2.1 (dk_at dkX6_readSaying 57 rfl) rfl rfl ?_
  refine r_iald (k := 43) (f := draft_48) C hK w.1 4 rfl (in_c (by decide)) (by decide) (dk_at dkX6_readSaying 58 rfl) ?_
  refine lv_topi (fun x49 ex49 => ?_)
  have hf := nm_at ex49 hf
  refine lv_iconst (v := 1) C.1 C.2.1 (dk_at dkX6_readSaying 59 rfl) (by decide) ?_
  refine lv_iadd C.1 C.2.1 (dk_at dkX6_readSaying 60 rfl) ?_
  refine lv_topi (fun x50 ex50 => ?_)
  have hf := nm_at ex50 hf
  refine r_iast (k := 43) (f := draft_48) C hK w 4 rfl (in_c (by decide)) (by decide) (dk_at dkX6_readSaying 61 rfl) (fun H locs w => ?_)
  obtain ⟨draft_51, edraft_51⟩ : ∃ z : AI, z = upd draft_48 43 x50 := ⟨_, rfl⟩
  have hf := nm_at edraft_51 hf
  have w : Wd g A Z.heap (wM g a_m st now isKept hearers draft_51 dHearers dWalls toldWinds tape taped pos_40 frm_41 sort_42 value_43 fault_44 wrongAt_45 landed landedIn stepped isThere isAt isNext landSum heardSum allWays ways drawn lanes sizes cells torn before) H locs := by rw [edraft_51]; exact w
  cases hf
  exact fin _ _ _ _ (dk_at dkX6_readSaying 62 rfl) w
-- X6.readWall
abbrev tbX6_readWall : List (Nat × Instr × Nat) := [(0, .aload_n 0, 1), (1, .invokevirtual 147, 3), (4, .istore_n 1, 1), (5, .aload_n 0, 1), (6, .getfield 90, 3), (9, .ifCond .ne 50, 3), (12, .aload_n 0, 1), (13, .aload_n 0, 1), (14, .getfield 20, 3), (17, .iload_n 1, 1), (18, .bipush 10, 2), (20, .idiv, 1), (21, .iaload, 1), (22, .iload_n 1, 1), (23, .bipush 10, 2), (25, .irem, 1), (26, .ishr, 1), (27, .iconst 1, 1), (28, .iand, 1), (29, .ifCond .ne 7, 3), (32, .iconst 1, 1), (33, .goto 4, 3), (36, .iconst 0, 1), (37, .iconst 4, 1), (38, .invokevirtual 132, 3), (41, .aload_n 0, 1), (42, .getfield 20, 3), (45, .iload_n 1, 1), (46, .bipush 10, 2), (48, .idiv, 1), (49, .dup2, 1), (50, .iaload, 1), (51, .iconst 1, 1), (52, .iload_n 1, 1), (53, .bipush 10, 2), (55, .irem, 1), (56, .ishl, 1), (57, .ior, 1), (58, .iastore, 1), (59, .aload_n 0, 1), (60, .dup, 1), (61, .getfield 72, 3), (64, .iconst 1, 1), (65, .iadd, 1), (66, .putfield 72, 3), (69, .aload_n 0, 1), (70, .invokevirtual 144, 3), (73, .return_, 1)]
theorem dkX6_readWall : dk cX6_readWall tbX6_readWall := dk_of (by decide +kernel)
abbrev cdX6_readWall : Cond := Cond.code yX6_readWall cX6_readWall 2 none
abbrev rmX6_readWall : Room := { frames := 3, cells := 0, slots := 0, locals := 68 }
theorem mwX6_readWall : Cond.instanceMethod yX6_readWall ∈ wsL_law ∧ Cond.selects RX6 yX6_readWall yX6_readWall ∈ wsL_law ∧ Cond.initialized RX6 ∈ wsL_law ∧ cdX6_readWall ∈ wsL_law := ⟨inr14 _ (List.mem_of_getElem? (i := 21) rfl), inr14 _ (List.mem_of_getElem? (i := 22) rfl), inr1 _ (List.mem_of_getElem? (i := 5) rfl), inr14 _ (List.mem_of_getElem? (i := 23) rfl)⟩
theorem hdX6_readWall : yX6_readWall.cls = RX6 ∧ yX6_readWall.cls ≠ "java/lang/invoke/MethodHandle" ∧ yX6_readWall.cls ≠ "java/lang/invoke/VarHandle" ∧ (parseMethodDescriptor yX6_readWall.desc).map (fun d => d.parameters.length) = some 0 := by decide +kernel
set_option maxHeartbeats 4000000 in
set_option maxRecDepth 100000 in
theorem kX6_readWall (l : Launch) (g : Gx) (sz : Nat) (a_m : Nat → Nat) (st : AI) (now : AI) (isKept : AI) (hearers : Int32) (draft : AI) (dHearers : Int32) (dWalls : Int32) (toldWinds : Int32) (tape : AI) (taped : Int32) (pos : Int32) (frm : Int32) (sort : Int32) (value : Int32) (fault : Int32) (wrongAt : Int32) (landed : AI) (landedIn : AI) (stepped : AI) (isThere : AI) (isAt : AI) (isNext : AI) (landSum : Int64) (heardSum : Int64) (allWays : Int64) (ways : AI) (drawn : AI) (lanes : AI) (sizes : AI) (cells : AI) (torn : Int32) (before : AI) (draft_o : AI) (dWalls_o : Int32) (pos_o : Int32) (frm_o : Int32) (sort_o : Int32) (value_o : Int32) (fault_o : Int32) (wrongAt_o : Int32) (hf : fX6_readWall draft dWalls tape taped pos frm sort value fault wrongAt = some (draft_o, dWalls_o, pos_o, frm_o, sort_o, value_o, fault_o, wrongAt_o)) : Met l yX6_readWall (cdX6_readWall :: wsL_law) rmX6_readWall (va_Pc [.ref (a_m 0)] (RWp g sz (wM g a_m st now isKept hearers draft dHearers dWalls toldWinds tape taped pos frm sort value fault wrongAt landed landedIn stepped isThere isAt isNext landSum heardSum allWays ways drawn lanes sizes cells torn before))) (va_Qv (fun _ : Unit => True) (fun _ => RWq g (va_A (wM g a_m st now isKept hearers draft dHearers dWalls toldWinds tape taped pos frm sort value fault wrongAt landed landedIn stepped isThere isAt isNext landSum heardSum allWays ways drawn lanes sizes cells torn before) sz) (wM g a_m st now isKept hearers draft_o dHearers dWalls_o toldWinds tape taped pos_o frm_o sort_o value_o fault_o wrongAt_o landed landedIn stepped isThere isAt isNext landSum heardSum allWays ways drawn lanes sizes cells torn before)) (va_A (wM g a_m st now isKept hearers draft dHearers dWalls toldWinds tape taped pos frm sort value fault wrongAt landed landedIn stepped isThere isAt isNext landSum heardSum allWays ways drawn lanes sizes cells torn before) sz)) 0 0 (va_A (wM g a_m st now isKept hearers draft dHearers dWalls toldWinds tape taped pos frm sort value fault wrongAt landed landedIn stepped isThere isAt isNext landSum heardSum allWays ways drawn lanes sizes cells torn before) sz) := by
  refine Met_rwv (cc := cX6_readWall) (maxL := 2) (by decide) rfl (Nat.le_of_ble_eq_true rfl) ?_
  intro P E Z Mi AR BE ME CO A Q C hK hA fin w ls hl
  have hl : lv_has ls 2 [(0, .ref (a_m 0))] := hl
  unfold fX6_readWall at hf
  refine lv_aload_n C.1 C.2.1 (dk_at dkX6_readWall 0 rfl) rfl (lv_at hl 0 rfl) ?_
  obtain ⟨r1, fault_2, wrongAt_3, hq4, hf⟩ := bd3_at hf
  refine r_rwi (As := []) (rest := []) (wr := []) (ws' := wM g a_m st now isKept hearers draft dHearers dWalls toldWinds tape taped pos frm sort value fault_2 wrongAt_3 landed landedIn stepped isThere isAt isNext landSum heardSum allWays ways drawn lanes sizes cells torn before) C (kX6_lookedCell l g _ a_m st now isKept hearers draft dHearers dWalls toldWinds tape taped pos frm sort value fault wrongAt landed landedIn stepped isThere isAt isNext landSum heardSum allWays ways drawn lanes sizes cells torn before r1 fault_2 wrongAt_3 hq4) (cwV0 C (inr15 _ (List.mem_of_getElem? (i := 0) rfl)) mwX6_lookedCell hdX6_lookedCell ⟨Nat.le_of_ble_eq_true rfl, Nat.le_of_ble_eq_true rfl⟩) hK w hA [0, 1, 2, 3, 4, 5, 6, 7, 8, 9, 10, 11, 12, 13, 14, 15, 16, 17] [] [0, 1, 2, 3, 4, 5, 6, 7, 8, 9, 10, 11, 12, 13, 14, 15, 16, 17] (by decide) rfl rfl (by decide) (by decide) rfl (by decide) rfl rfl rfl hl.1 rfl (Nat.le_of_ble_eq_true rfl) ⟨Nat.zero_le _, Nat.zero_le _⟩ (dk_at dkX6_readWall 1 rfl) (fun H locs w => ?_)
  refine lv_istore_n (lv' := [(1, .int r1), (0, .ref (a_m 0))]) C.1 C.2.1 (dk_at dkX6_readWall 2 rfl) rfl hl (by decide) rfl (fun ls hl => ?_)
  refine lv_aload_n C.1 C.2.1 (dk_at dkX6_readWall 3 rfl) rfl (lv_at hl 1 rfl) ?_
  refine r_get (v := .int fault_2) C hK w.1 (fun w h => List.mem_cons_of_mem _ (inlX6 w h)) 0 rfl rfl 14 (by decide) (List.mem_cons_of_mem _ (inr12 _ (List.mem_of_getElem? (i := 18) rfl))) rfl (dk_at dkX6_readWall 4 rfl) ?_
  obtain ⟨draft_5, fault_6, wrongAt_7, hq8, hf⟩ := bd3_at hf
  have J9 : ∀ (H : Heap) (locs : List Loc) (ls : Array Slot), Wd g A Z.heap (wM g a_m st now isKept hearers draft_5 dHearers dWalls toldWinds tape taped pos frm sort value fault_6 wrongAt_7 landed landedIn stepped isThere isAt isNext landSum heardSum allWays ways drawn lanes sizes cells torn before) H locs → lv_has ls 2 [(0, .ref (a_m 0))] → W P l E rmX6_readWall Z Mi AR BE ME CO H locs 0 0 Q (F0 Mi 59 ls []) := by
    intro H locs ls w hl
    refine lv_aload_n C.1 C.2.1 (dk_at dkX6_readWall 39 rfl) rfl (lv_at hl 0 rfl) ?_
    refine lv_dup C.1 C.2.1 (dk_at dkX6_readWall 40 rfl) rfl ?_
    refine r_get (v := .int dWalls) C hK w.1 (fun w h => List.mem_cons_of_mem _ (inlX6 w h)) 0 rfl rfl 6 (by decide) (List.mem_cons_of_mem _ (inr5 _ (List.mem_of_getElem? (i := 2) rfl))) rfl (dk_at dkX6_readWall 41 rfl) ?_
    refine lv_iconst (v := 1) C.1 C.2.1 (dk_at dkX6_readWall 42 rfl) (by decide) ?_
    refine lv_iadd C.1 C.2.1 (dk_at dkX6_readWall 43 rfl) ?_
    refine lv_topi (fun x10 ex10 => ?_)
    have hf := nm_at ex10 hf
    refine r_put (v := .int x10) C hK w (fun w h => List.mem_cons_of_mem _ (inlX6 w h)) tyX6 tyX6_ok nmX6 0 rfl rfl 6 (by decide) (List.mem_cons_of_mem _ (inr5 _ (List.mem_of_getElem? (i := 2) rfl))) rfl rfl rfl (Nat.le_of_ble_eq_true rfl) (dk_at dkX6_readWall 44 rfl) (fun H locs w => ?_)
    have w : Wd g A Z.heap (wM g a_m st now isKept hearers draft_5 dHearers x10 toldWinds tape taped pos frm sort value fault_6 wrongAt_7 landed landedIn stepped isThere isAt isNext landSum heardSum allWays ways drawn lanes sizes cells torn before) H locs := w
    refine lv_aload_n C.1 C.2.1 (dk_at dkX6_readWall 45 rfl) rfl (lv_at hl 0 rfl) ?_
    obtain ⟨pos_11, frm_12, sort_13, value_14, fault_15, wrongAt_16, hq17, hf⟩ := bd6_at hf
    refine r_rwv (As := []) (rest := []) (wr := []) (ws' := wM g a_m st now isKept hearers draft_5 dHearers x10 toldWinds tape taped pos_11 frm_12 sort_13 value_14 fault_15 wrongAt_16 landed landedIn stepped isThere isAt isNext landSum heardSum allWays ways drawn lanes sizes cells torn before) C (kX6_takes l g _ a_m st now isKept hearers draft_5 dHearers x10 toldWinds tape taped pos frm sort value fault_6 wrongAt_7 landed landedIn stepped isThere isAt isNext landSum heardSum allWays ways drawn lanes sizes cells torn before pos_11 frm_12 sort_13 value_14 fault_15 wrongAt_16 hq17) (cwV0 C (inr12 _ (List.mem_of_getElem? (i := 22) rfl)) mwX6_takes hdX6_takes ⟨Nat.le_of_ble_eq_true rfl, Nat.le_of_ble_eq_true rfl⟩) hK w hA [0, 1, 2, 3, 4, 5, 6, 7, 8, 9, 10, 11, 12, 13, 14, 15, 16, 17] [] [0, 1, 2, 3, 4, 5, 6, 7, 8, 9, 10, 11, 12, 13, 14, 15, 16, 17] (by decide) rfl rfl (by decide) (by decide) rfl (by decide) rfl rfl rfl hl.1 rfl (Nat.le_of_ble_eq_true rfl) ⟨Nat.zero_le _, Nat.zero_le _⟩ (dk_at dkX6_readWall 46 rfl) (fun H locs w => ?_)
    cases hf
    exact fin _ _ _ _ (dk_at dkX6_readWall 47 rfl) w
  clear hf
  have hf := hq8
  refine lv_if_ne (tgt := 59) C.1 C.2.1 (dk_at dkX6_readWall 5 rfl) (by decide) (fun c18 => ?_) (fun c18 => ?_)
  · have hf := (if_neg c18).symm.trans hf
    cases hf
    exact J9 _ _ _ w (lv_sub hl [1] rfl)
  · have hf := (if_pos c18).symm.trans hf
    refine lv_aload_n C.1 C.2.1 (dk_at dkX6_readWall 6 rfl) rfl (lv_at hl 1 rfl) ?_
    refine lv_aload_n C.1 C.2.1 (dk_at dkX6_readWall 7 rfl) rfl (lv_at hl 1 rfl) ?_
    refine r_get (v := .ref (a_m 4)) C hK w.1 (fun w h => List.mem_cons_of_mem _ (inlX6 w h)) 0 rfl rfl 4 (by decide) (List.mem_cons_of_mem _ (inr4 _ (List.mem_of_getElem? (i := 7) rfl))) rfl (dk_at dkX6_readWall 8 rfl) ?_
    refine lv_iload_n C.1 C.2.1 (dk_at dkX6_readWall 9 rfl) rfl (lv_at hl 0 rfl) ?_
    refine lv_bipush (v := 10) C.1 C.2.1 (dk_at dkX6_readWall 10 rfl) (by decide) ?_
    refine lv_idiv C.1 C.2.1 (dk_at dkX6_readWall 11 rfl) (by decide) ?_
    refine lv_topi (fun x19 ex19 => ?_)
    have hf := nm_at ex19 hf
    obtain ⟨h20, hf⟩ := gd_at hf
    refine r_iald (k := x19.toNatClampNeg) (f := draft) C hK w.1 4 rfl h20 rfl (dk_at dkX6_readWall 12 rfl) ?_
    refine lv_topi (fun x21 ex21 => ?_)
    have hf := nm_at ex21 hf
    refine lv_iload_n C.1 C.2.1 (dk_at dkX6_readWall 13 rfl) rfl (lv_at hl 0 rfl) ?_
    refine lv_bipush (v := 10) C.1 C.2.1 (dk_at dkX6_readWall 14 rfl) (by decide) ?_
    refine lv_irem C.1 C.2.1 (dk_at dkX6_readWall 15 rfl) (by decide) ?_
    refine lv_ishr C.1 C.2.1 (dk_at dkX6_readWall 16 rfl) ?_
    refine lv_topi (fun x22 ex22 => ?_)
    have hf := nm_at ex22 hf
    refine lv_iconst (v := 1) C.1 C.2.1 (dk_at dkX6_readWall 17 rfl) (by decide) ?_
    refine lv_iand C.1 C.2.1 (dk_at dkX6_readWall 18 rfl) ?_
    obtain ⟨y23, hq24, hf⟩ := bd1_at hf
    have J25 : ∀ (H : Heap) (locs : List Loc) (ls : Array Slot), Wd g A Z.heap (wM g a_m st now isKept hearers draft dHearers dWalls toldWinds tape taped pos frm sort value fault_2 wrongAt_3 landed landedIn stepped isThere isAt isNext landSum heardSum allWays ways drawn lanes sizes cells torn before) H locs → lv_has ls 2 [(1, .int r1), (0, .ref (a_m 0))] → W P l E rmX6_readWall Z Mi AR BE ME CO H locs 0 0 Q (F0 Mi 37 ls [.int y23, .ref (a_m 0)]) := by
      intro H locs ls w hl
      refine lv_iconst (v := 4) C.1 C.2.1 (dk_at dkX6_readWall 23 rfl) (by decide) ?_
      obtain ⟨fault_26, wrongAt_27, hq28, hf⟩ := bd2_at hf
      refine r_rwv (As := [.int y23, .int 4]) (rest := []) (wr := []) (ws' := wM g a_m st now isKept hearers draft dHearers dWalls toldWinds tape taped pos frm sort value fault_26 wrongAt_27 landed landedIn stepped isThere isAt isNext landSum heardSum allWays ways drawn lanes sizes cells torn before) C (kX6_needs l g _ a_m st now isKept hearers draft dHearers dWalls toldWinds tape taped pos frm sort value fault_2 wrongAt_3 landed landedIn stepped isThere isAt isNext landSum heardSum allWays ways drawn lanes sizes cells torn before y23 4 fault_26 wrongAt_27 hq28) (cwV0 C (inr13 _ (List.mem_of_getElem? (i := 12) rfl)) mwX6_needs hdX6_needs ⟨Nat.le_of_ble_eq_true rfl, Nat.le_of_ble_eq_true rfl⟩) hK w hA [0, 1, 2, 3, 4, 5, 6, 7, 8, 9, 10, 11, 12, 13, 14, 15, 16, 17] [] [0, 1, 2, 3, 4, 5, 6, 7, 8, 9, 10, 11, 12, 13, 14, 15, 16, 17] (by decide) rfl rfl (by decide) (by decide) rfl (by decide) rfl rfl rfl hl.1 rfl (Nat.le_of_ble_eq_true rfl) ⟨Nat.zero_le _, Nat.zero_le _⟩ (dk_at dkX6_readWall 24 rfl) (fun H locs w => ?_)
      refine lv_aload_n C.1 C.2.1 (dk_at dkX6_readWall 25 rfl) rfl (lv_at hl 1 rfl) ?_
      refine r_get (v := .ref (a_m 4)) C hK w.1 (fun w h => List.mem_cons_of_mem _ (inlX6 w h)) 0 rfl rfl 4 (by decide) (List.mem_cons_of_mem _ (inr4 _ (List.mem_of_getElem? (i := 7) rfl))) rfl (dk_at dkX6_readWall 26 rfl) ?_
      refine lv_iload_n C.1 C.2.1 (dk_at dkX6_readWall 27 rfl) rfl (lv_at hl 0 rfl) ?_
      refine lv_bipush (v := 10) C.1 C.2.1 (dk_at dkX6_readWall 28 rfl) (by decide) ?_
      refine lv_idiv C.1 C.2.1 (dk_at dkX6_readWall 29 rfl) (by decide) ?_
      refine lv_topi (fun x29 ex29 => ?_)
      have hf := nm_at ex29 hf
      refine lv_dup2_11 C.1 C.2.1 (dk_at dkX6_readWall 30 rfl) rfl rfl ?_
      obtain ⟨h30, hf⟩ := gd_at hf
      refine r_iald (k := x29.toNatClampNeg) (f := draft) C hK w.1 4 rfl h30 rfl (dk_at dkX6_readWall 31 rfl) ?_
      refine lv_topi (fun x31 ex31 => ?_)
      have hf := nm_at ex31 hf
      refine lv_iconst (v := 1) C.1 C.2.1 (dk_at dkX6_readWall 32 rfl) (by decide) ?_
      refine lv_iload_n C.1 C.2.1 (dk_at dkX6_readWall 33 rfl) rfl (lv_at hl 0 rfl) ?_
      refine lv_bipush (v := 10) C.1 C.2.1 (dk_at dkX6_readWall 34 rfl) (by decide) ?_
      refine lv_irem C.1 C.2.1 (dk_at dkX6_readWall 35 rfl) (by decide) ?_
      refine lv_ishl C.1 C.2.1 (dk_at dkX6_readWall 36 rfl) ?_
      refine lv_ior C.1 C.2.1 (dk_at dkX6_readWall 37 rfl) ?_
      refine lv_topi (fun x32 ex32 => ?_)
      have hf := nm_at ex32 hf
      obtain ⟨h33, hf⟩ := gd_at hf
      refine r_iast (k := x29.toNatClampNeg) (f := draft) C hK w 4 rfl h33 rfl (dk_at dkX6_readWall 38 rfl) (fun H locs w => ?_)
      obtain ⟨draft_34, edraft_34⟩ : ∃ z : AI, z = upd draft x29.toNatClampNeg x32 := ⟨_, rfl⟩
      have hf := nm_at edraft_34 hf
      have w : Wd g A Z.heap (wM g a_m st now isKept hearers draft_34 dHearers dWalls toldWinds tape taped pos frm sort value fault_26 wrongAt_27 landed landedIn stepped isThere isAt isNext landSum heardSum allWays ways drawn lanes sizes cells torn before) H locs := by rw [edraft_34]; exact w
      cases hf
      exact J9 _ _ _ w (lv_sub hl [1] rfl)
    clear hf
    have hf := hq24
    refine lv_if_ne (tgt := 36) C.1 C.2.1 (dk_at dkX6_readWall 19 rfl) (by decide) (fun c35 => ?_) (fun c35 => ?_)
    · have hf := (if_neg c35).symm.trans hf
      refine lv_iconst (v := 0) C.1 C.2.1 (dk_at dkX6_readWall 22 rfl) (by decide) ?_
      cases hf
      exact J25 _ _ _ w (lv_sub hl [0, 1] rfl)
    · have hf := (if_pos c35).symm.trans hf
      refine lv_iconst (v := 1) C.1 C.2.1 (dk_at dkX6_readWall 20 rfl) (by decide) ?_
      refine lv_goto (tgt := 37) C.1 C.2.1 (dk_at dkX6_readWall 21 rfl) (by decide) ?_
      cases hf
      exact J25 _ _ _ w (lv_sub hl [0, 1] rfl)
-- X6.readWind
abbrev tbX6_readWind : List (Nat × Instr × Nat) := [(0, .aload_n 0, 1), (1, .iconst 0, 1), (2, .bipush 9, 2), (4, .invokevirtual 136, 3), (7, .istore_n 1, 1), (8, .aload_n 0, 1), (9, .getfield 90, 3), (12, .ifCond .ne 36, 3), (15, .aload_n 0, 1), (16, .aload_n 0, 1), (17, .getfield 75, 3), (20, .iload_n 1, 1), (21, .ishr, 1), (22, .iconst 1, 1), (23, .iand, 1), (24, .ifCond .ne 7, 3), (27, .iconst 1, 1), (28, .goto 4, 3), (31, .iconst 0, 1), (32, .iconst 4, 1), (33, .invokevirtual 132, 3), (36, .aload_n 0, 1), (37, .dup, 1), (38, .getfield 75, 3), (41, .iconst 1, 1), (42, .iload_n 1, 1), (43, .ishl, 1), (44, .ior, 1), (45, .putfield 75, 3), (48, .aload_n 0, 1), (49, .invokevirtual 144, 3), (52, .aload_n 0, 1), (53, .getfield 20, 3), (56, .bipush 8, 2), (58, .iload_n 1, 1), (59, .iadd, 1), (60, .aload_n 0, 1), (61, .iconst 0, 1), (62, .iconst 4, 1), (63, .invokevirtual 153, 3), (66, .iastore, 1), (67, .return_, 1)]
theorem dkX6_readWind : dk cX6_readWind tbX6_readWind := dk_of (by decide +kernel)
abbrev cdX6_readWind : Cond := Cond.code yX6_readWind cX6_readWind 2 none
abbrev rmX6_readWind : Room := { frames := 3, cells := 0, slots := 0, locals := 70 }
theorem mwX6_readWind : Cond.instanceMethod yX6_readWind ∈ wsL_law ∧ Cond.selects RX6 yX6_readWind yX6_readWind ∈ wsL_law ∧ Cond.initialized RX6 ∈ wsL_law ∧ cdX6_readWind ∈ wsL_law := ⟨inr15 _ (List.mem_of_getElem? (i := 12) rfl), inr15 _ (List.mem_of_getElem? (i := 13) rfl), inr1 _ (List.mem_of_getElem? (i := 5) rfl), inr15 _ (List.mem_of_getElem? (i := 14) rfl)⟩
theorem hdX6_readWind : yX6_readWind.cls = RX6 ∧ yX6_readWind.cls ≠ "java/lang/invoke/MethodHandle" ∧ yX6_readWind.cls ≠ "java/lang/invoke/VarHandle" ∧ (parseMethodDescriptor yX6_readWind.desc).map (fun d => d.parameters.length) = some 0 := by decide +kernel
set_option maxHeartbeats 4000000 in
set_option maxRecDepth 100000 in
theorem kX6_readWind (l : Launch) (g : Gx) (sz : Nat) (a_m : Nat → Nat) (st : AI) (now : AI) (isKept : AI) (hearers : Int32) (draft : AI) (dHearers : Int32) (dWalls : Int32) (toldWinds : Int32) (tape : AI) (taped : Int32) (pos : Int32) (frm : Int32) (sort : Int32) (value : Int32) (fault : Int32) (wrongAt : Int32) (landed : AI) (landedIn : AI) (stepped : AI) (isThere : AI) (isAt : AI) (isNext : AI) (landSum : Int64) (heardSum : Int64) (allWays : Int64) (ways : AI) (drawn : AI) (lanes : AI) (sizes : AI) (cells : AI) (torn : Int32) (before : AI) (draft_o : AI) (toldWinds_o : Int32) (pos_o : Int32) (frm_o : Int32) (sort_o : Int32) (value_o : Int32) (fault_o : Int32) (wrongAt_o : Int32) (hf : fX6_readWind draft toldWinds tape taped pos frm sort value fault wrongAt = some (draft_o, toldWinds_o, pos_o, frm_o, sort_o, value_o, fault_o, wrongAt_o)) : Met l yX6_readWind (cdX6_readWind :: wsL_law) rmX6_readWind (va_Pc [.ref (a_m 0)] (RWp g sz (wM g a_m st now isKept hearers draft dHearers dWalls toldWinds tape taped pos frm sort value fault wrongAt landed landedIn stepped isThere isAt isNext landSum heardSum allWays ways drawn lanes sizes cells torn before))) (va_Qv (fun _ : Unit => True) (fun _ => RWq g (va_A (wM g a_m st now isKept hearers draft dHearers dWalls toldWinds tape taped pos frm sort value fault wrongAt landed landedIn stepped isThere isAt isNext landSum heardSum allWays ways drawn lanes sizes cells torn before) sz) (wM g a_m st now isKept hearers draft_o dHearers dWalls toldWinds_o tape taped pos_o frm_o sort_o value_o fault_o wrongAt_o landed landedIn stepped isThere isAt isNext landSum heardSum allWays ways drawn lanes sizes cells torn before)) (va_A (wM g a_m st now isKept hearers draft dHearers dWalls toldWinds tape taped pos frm sort value fault wrongAt landed landedIn stepped isThere isAt isNext landSum heardSum allWays ways drawn lanes sizes cells torn before) sz)) 0 0 (va_A (wM g a_m st now isKept hearers draft dHearers dWalls toldWinds tape taped pos frm sort value fault wrongAt landed landedIn stepped isThere isAt isNext landSum heardSum allWays ways drawn lanes sizes cells torn before) sz) := by
  refine Met_rwv (cc := cX6_readWind) (maxL := 2) (by decide) rfl (Nat.le_of_ble_eq_true rfl) ?_
  intro P E Z Mi AR BE ME CO A Q C hK hA fin w ls hl
  have hl : lv_has ls 2 [(0, .ref (a_m 0))] := hl
  unfold fX6_readWind at hf
  refine lv_aload_n C.1 C.2.1 (dk_at dkX6_readWind 0 rfl) rfl (lv_at hl 0 rfl) ?_
  refine lv_iconst (v := 0) C.1 C.2.1 (dk_at dkX6_readWind 1 rfl) (by decide) ?_
  refine lv_bipush (v := 9) C.1 C.2.1 (dk_at dkX6_readWind 2 rfl) (by decide) ?_
  obtain ⟨r1, fault_2, wrongAt_3, hq4, hf⟩ := bd3_at hf
  refine r_rwi (As := [.int 0, .int 9]) (rest := []) (wr := []) (ws' := wM g a_m st now isKept hearers draft dHearers dWalls toldWinds tape taped pos frm sort value fault_2 wrongAt_3 landed landedIn stepped isThere isAt isNext landSum heardSum allWays ways drawn lanes sizes cells torn before) C (kX6_looked l g _ a_m st now isKept hearers draft dHearers dWalls toldWinds tape taped pos frm sort value fault wrongAt landed landedIn stepped isThere isAt isNext landSum heardSum allWays ways drawn lanes sizes cells torn before 0 9 r1 fault_2 wrongAt_3 hq4) (cwV0 C (inr15 _ (List.mem_of_getElem? (i := 4) rfl)) mwX6_looked hdX6_looked ⟨Nat.le_of_ble_eq_true rfl, Nat.le_of_ble_eq_true rfl⟩) hK w hA [0, 1, 2, 3, 4, 5, 6, 7, 8, 9, 10, 11, 12, 13, 14, 15, 16, 17] [] [0, 1, 2, 3, 4, 5, 6, 7, 8, 9, 10, 11, 12, 13, 14, 15, 16, 17] (by decide) rfl rfl (by decide) (by decide) rfl (by decide) rfl rfl rfl hl.1 rfl (Nat.le_of_ble_eq_true rfl) ⟨Nat.zero_le _, Nat.zero_le _⟩ (dk_at dkX6_readWind 3 rfl) (fun H locs w => ?_)
  refine lv_istore_n (lv' := [(1, .int r1), (0, .ref (a_m 0))]) C.1 C.2.1 (dk_at dkX6_readWind 4 rfl) rfl hl (by decide) rfl (fun ls hl => ?_)
  refine lv_aload_n C.1 C.2.1 (dk_at dkX6_readWind 5 rfl) rfl (lv_at hl 1 rfl) ?_
  refine r_get (v := .int fault_2) C hK w.1 (fun w h => List.mem_cons_of_mem _ (inlX6 w h)) 0 rfl rfl 14 (by decide) (List.mem_cons_of_mem _ (inr12 _ (List.mem_of_getElem? (i := 18) rfl))) rfl (dk_at dkX6_readWind 6 rfl) ?_
  obtain ⟨toldWinds_5, fault_6, wrongAt_7, hq8, hf⟩ := bd3_at hf
  have J9 : ∀ (H : Heap) (locs : List Loc) (ls : Array Slot), Wd g A Z.heap (wM g a_m st now isKept hearers draft dHearers dWalls toldWinds_5 tape taped pos frm sort value fault_6 wrongAt_7 landed landedIn stepped isThere isAt isNext landSum heardSum allWays ways drawn lanes sizes cells torn before) H locs → lv_has ls 2 [(1, .int r1), (0, .ref (a_m 0))] → W P l E rmX6_readWind Z Mi AR BE ME CO H locs 0 0 Q (F0 Mi 48 ls []) := by
    intro H locs ls w hl
    refine lv_aload_n C.1 C.2.1 (dk_at dkX6_readWind 29 rfl) rfl (lv_at hl 1 rfl) ?_
    obtain ⟨pos_10, frm_11, sort_12, value_13, fault_14, wrongAt_15, hq16, hf⟩ := bd6_at hf
    refine r_rwv (As := []) (rest := []) (wr := []) (ws' := wM g a_m st now isKept hearers draft dHearers dWalls toldWinds_5 tape taped pos_10 frm_11 sort_12 value_13 fault_14 wrongAt_15 landed landedIn stepped isThere isAt isNext landSum heardSum allWays ways drawn lanes sizes cells torn before) C (kX6_takes l g _ a_m st now isKept hearers draft dHearers dWalls toldWinds_5 tape taped pos frm sort value fault_6 wrongAt_7 landed landedIn stepped isThere isAt isNext landSum heardSum allWays ways drawn lanes sizes cells torn before pos_10 frm_11 sort_12 value_13 fault_14 wrongAt_15 hq16) (cwV0 C (inr12 _ (List.mem_of_getElem? (i := 22) rfl)) mwX6_takes hdX6_takes ⟨Nat.le_of_ble_eq_true rfl, Nat.le_of_ble_eq_true rfl⟩) hK w hA [0, 1, 2, 3, 4, 5, 6, 7, 8, 9, 10, 11, 12, 13, 14, 15, 16, 17] [] [0, 1, 2, 3, 4, 5, 6, 7, 8, 9, 10, 11, 12, 13, 14, 15, 16, 17] (by decide) rfl rfl (by decide) (by decide) rfl (by decide) rfl rfl rfl hl.1 rfl (Nat.le_of_ble_eq_true rfl) ⟨Nat.zero_le _, Nat.zero_le _⟩ (dk_at dkX6_readWind 30 rfl) (fun H locs w => ?_)
    refine lv_aload_n C.1 C.2.1 (dk_at dkX6_readWind 31 rfl) rfl (lv_at hl 1 rfl) ?_
    refine r_get (v := .ref (a_m 4)) C hK w.1 (fun w h => List.mem_cons_of_mem _ (inlX6 w h)) 0 rfl rfl 4 (by decide) (List.mem_cons_of_mem _ (inr4 _ (List.mem_of_getElem? (i := 7) rfl))) rfl (dk_at dkX6_readWind 32 rfl) ?_
    refine lv_bipush (v := 8) C.1 C.2.1 (dk_at dkX6_readWind 33 rfl) (by decide) ?_
    refine lv_iload_n C.1 C.2.1 (dk_at dkX6_readWind 34 rfl) rfl (lv_at hl 0 rfl) ?_
    refine lv_iadd C.1 C.2.1 (dk_at dkX6_readWind 35 rfl) ?_
    refine lv_topi (fun x17 ex17 => ?_)
    have hf := nm_at ex17 hf
    refine lv_aload_n C.1 C.2.1 (dk_at dkX6_readWind 36 rfl) rfl (lv_at hl 1 rfl) ?_
    refine lv_iconst (v := 0) C.1 C.2.1 (dk_at dkX6_readWind 37 rfl) (by decide) ?_
    refine lv_iconst (v := 4) C.1 C.2.1 (dk_at dkX6_readWind 38 rfl) (by decide) ?_
    obtain ⟨r18, pos_19, frm_20, sort_21, value_22, fault_23, wrongAt_24, hq25, hf⟩ := bd7_at hf
    refine r_rwi (As := [.int 0, .int 4]) (rest := [.int x17, .ref (a_m 4)]) (wr := []) (ws' := wM g a_m st now isKept hearers draft dHearers dWalls toldWinds_5 tape taped pos_19 frm_20 sort_21 value_22 fault_23 wrongAt_24 landed landedIn stepped isThere isAt isNext landSum heardSum allWays ways drawn lanes sizes cells torn before) C (kX6_readNumber l g _ a_m st now isKept hearers draft dHearers dWalls toldWinds_5 tape taped pos_10 frm_11 sort_12 value_13 fault_14 wrongAt_15 landed landedIn stepped isThere isAt isNext landSum heardSum allWays ways drawn lanes sizes cells torn before 0 4 r18 pos_19 frm_20 sort_21 value_22 fault_23 wrongAt_24 hq25) (cwV0 C (inr15 _ (List.mem_of_getElem? (i := 15) rfl)) mwX6_readNumber hdX6_readNumber ⟨Nat.le_of_ble_eq_true rfl, Nat.le_of_ble_eq_true rfl⟩) hK w hA [0, 1, 2, 3, 4, 5, 6, 7, 8, 9, 10, 11, 12, 13, 14, 15, 16, 17] [] [0, 1, 2, 3, 4, 5, 6, 7, 8, 9, 10, 11, 12, 13, 14, 15, 16, 17] (by decide) rfl rfl (by decide) (by decide) rfl (by decide) rfl rfl rfl hl.1 rfl (Nat.le_of_ble_eq_true rfl) ⟨Nat.zero_le _, Nat.zero_le _⟩ (dk_at dkX6_readWind 39 rfl) (fun H locs w => ?_)
    obtain ⟨h26, hf⟩ := gd_at hf
    refine r_iast (k := x17.toNatClampNeg) (f := draft) C hK w 4 rfl h26 rfl (dk_at dkX6_readWind 40 rfl) (fun H locs w => ?_)
    obtain ⟨draft_27, edraft_27⟩ : ∃ z : AI, z = upd draft x17.toNatClampNeg r18 := ⟨_, rfl⟩
    have hf := nm_at edraft_27 hf
    have w : Wd g A Z.heap (wM g a_m st now isKept hearers draft_27 dHearers dWalls toldWinds_5 tape taped pos_19 frm_20 sort_21 value_22 fault_23 wrongAt_24 landed landedIn stepped isThere isAt isNext landSum heardSum allWays ways drawn lanes sizes cells torn before) H locs := by rw [edraft_27]; exact w
    cases hf
    exact fin _ _ _ _ (dk_at dkX6_readWind 41 rfl) w
  clear hf
  have hf := hq8
  refine lv_if_ne (tgt := 48) C.1 C.2.1 (dk_at dkX6_readWind 7 rfl) (by decide) (fun c28 => ?_) (fun c28 => ?_)
  · have hf := (if_neg c28).symm.trans hf
    cases hf
    exact J9 _ _ _ w (lv_sub hl [0, 1] rfl)
  · have hf := (if_pos c28).symm.trans hf
    refine lv_aload_n C.1 C.2.1 (dk_at dkX6_readWind 8 rfl) rfl (lv_at hl 1 rfl) ?_
    refine lv_aload_n C.1 C.2.1 (dk_at dkX6_readWind 9 rfl) rfl (lv_at hl 1 rfl) ?_
    refine r_get (v := .int toldWinds) C hK w.1 (fun w h => List.mem_cons_of_mem _ (inlX6 w h)) 0 rfl rfl 7 (by decide) (List.mem_cons_of_mem _ (inr5 _ (List.mem_of_getElem? (i := 3) rfl))) rfl (dk_at dkX6_readWind 10 rfl) ?_
    refine lv_iload_n C.1 C.2.1 (dk_at dkX6_readWind 11 rfl) rfl (lv_at hl 0 rfl) ?_
    refine lv_ishr C.1 C.2.1 (dk_at dkX6_readWind 12 rfl) ?_
    refine lv_topi (fun x29 ex29 => ?_)
    have hf := nm_at ex29 hf
    refine lv_iconst (v := 1) C.1 C.2.1 (dk_at dkX6_readWind 13 rfl) (by decide) ?_
    refine lv_iand C.1 C.2.1 (dk_at dkX6_readWind 14 rfl) ?_
    obtain ⟨y30, hq31, hf⟩ := bd1_at hf
    have J32 : ∀ (H : Heap) (locs : List Loc) (ls : Array Slot), Wd g A Z.heap (wM g a_m st now isKept hearers draft dHearers dWalls toldWinds tape taped pos frm sort value fault_2 wrongAt_3 landed landedIn stepped isThere isAt isNext landSum heardSum allWays ways drawn lanes sizes cells torn before) H locs → lv_has ls 2 [(1, .int r1), (0, .ref (a_m 0))] → W P l E rmX6_readWind Z Mi AR BE ME CO H locs 0 0 Q (F0 Mi 32 ls [.int y30, .ref (a_m 0)]) := by
      intro H locs ls w hl
      refine lv_iconst (v := 4) C.1 C.2.1 (dk_at dkX6_readWind 19 rfl) (by decide) ?_
      obtain ⟨fault_33, wrongAt_34, hq35, hf⟩ := bd2_at hf
      refine r_rwv (As := [.int y30, .int 4]) (rest := []) (wr := []) (ws' := wM g a_m st now isKept hearers draft dHearers dWalls toldWinds tape taped pos frm sort value fault_33 wrongAt_34 landed landedIn stepped isThere isAt isNext landSum heardSum allWays ways drawn lanes sizes cells torn before) C (kX6_needs l g _ a_m st now isKept hearers draft dHearers dWalls toldWinds tape taped pos frm sort value fault_2 wrongAt_3 landed landedIn stepped isThere isAt isNext landSum heardSum allWays ways drawn lanes sizes cells torn before y30 4 fault_33 wrongAt_34 hq35) (cwV0 C (inr13 _ (List.mem_of_getElem? (i := 12) rfl)) mwX6_needs hdX6_needs ⟨Nat.le_of_ble_eq_true rfl, Nat.le_of_ble_eq_true rfl⟩) hK w hA [0, 1, 2, 3, 4, 5, 6, 7, 8, 9, 10, 11, 12, 13, 14, 15, 16, 17] [] [0, 1, 2, 3, 4, 5, 6, 7, 8, 9, 10, 11, 12, 13, 14, 15, 16, 17] (by decide) rfl rfl (by decide) (by decide) rfl (by decide) rfl rfl rfl hl.1 rfl (Nat.le_of_ble_eq_true rfl) ⟨Nat.zero_le _, Nat.zero_le _⟩ (dk_at dkX6_readWind 20 rfl) (fun H locs w => ?_)
      refine lv_aload_n C.1 C.2.1 (dk_at dkX6_readWind 21 rfl) rfl (lv_at hl 1 rfl) ?_
      refine lv_dup C.1 C.2.1 (dk_at dkX6_readWind 22 rfl) rfl ?_
      refine r_get (v := .int toldWinds) C hK w.1 (fun w h => List.mem_cons_of_mem _ (inlX6 w h)) 0 rfl rfl 7 (by decide) (List.mem_cons_of_mem _ (inr5 _ (List.mem_of_getElem? (i := 3) rfl))) rfl (dk_at dkX6_readWind 23 rfl) ?_
      refine lv_iconst (v := 1) C.1 C.2.1 (dk_at dkX6_readWind 24 rfl) (by decide) ?_
      refine lv_iload_n C.1 C.2.1 (dk_at dkX6_readWind 25 rfl) rfl (lv_at hl 0 rfl) ?_
      refine lv_ishl C.1 C.2.1 (dk_at dkX6_readWind 26 rfl) ?_
      refine lv_ior C.1 C.2.1 (dk_at dkX6_readWind 27 rfl) ?_
      refine lv_topi (fun x36 ex36 => ?_)
      have hf := nm_at ex36 hf
      refine r_put (v := .int x36) C hK w (fun w h => List.mem_cons_of_mem _ (inlX6 w h)) tyX6 tyX6_ok nmX6 0 rfl rfl 7 (by decide) (List.mem_cons_of_mem _ (inr5 _ (List.mem_of_getElem? (i := 3) rfl))) rfl rfl rfl (Nat.le_of_ble_eq_true rfl) (dk_at dkX6_readWind 28 rfl) (fun H locs w => ?_)
      have w : Wd g A Z.heap (wM g a_m st now isKept hearers draft dHearers dWalls x36 tape taped pos frm sort value fault_33 wrongAt_34 landed landedIn stepped isThere isAt isNext landSum heardSum allWays ways drawn lanes sizes cells torn before) H locs := w
      cases hf
      exact J9 _ _ _ w (lv_sub hl [0, 1] rfl)
    clear hf
    have hf := hq31
    refine lv_if_ne (tgt := 31) C.1 C.2.1 (dk_at dkX6_readWind 15 rfl) (by decide) (fun c37 => ?_) (fun c37 => ?_)
    · have hf := (if_neg c37).symm.trans hf
      refine lv_iconst (v := 0) C.1 C.2.1 (dk_at dkX6_readWind 18 rfl) (by decide) ?_
      cases hf
      exact J32 _ _ _ w (lv_sub hl [0, 1] rfl)
    · have hf := (if_pos c37).symm.trans hf
      refine lv_iconst (v := 1) C.1 C.2.1 (dk_at dkX6_readWind 16 rfl) (by decide) ?_
      refine lv_goto (tgt := 32) C.1 C.2.1 (dk_at dkX6_readWind 17 rfl) (by decide) ?_
      cases hf
      exact J32 _ _ _ w (lv_sub hl [0, 1] rfl)
-- X6.readLineOf
abbrev tbX6_readLineOf : List (Nat × Instr × Nat) := [(0, .iload_n 1, 1), (1, .tableswitch 70 4 6 #[27, 41, 34], 27), (28, .aload_n 0, 1), (29, .invokevirtual 156, 3), (32, .goto 44, 3), (35, .aload_n 0, 1), (36, .invokevirtual 159, 3), (39, .goto 37, 3), (42, .aload_n 0, 1), (43, .getfield 20, 3), (46, .bipush 44, 2), (48, .aload_n 0, 1), (49, .getfield 68, 3), (52, .iadd, 1), (53, .aload_n 0, 1), (54, .invokevirtual 150, 3), (57, .iastore, 1), (58, .aload_n 0, 1), (59, .dup, 1), (60, .getfield 68, 3), (63, .iconst 1, 1), (64, .iadd, 1), (65, .putfield 68, 3), (68, .goto 8, 3), (71, .aload_n 0, 1), (72, .iload_n 1, 1), (73, .invokevirtual 162, 3), (76, .return_, 1)]
theorem dkX6_readLineOf : dk cX6_readLineOf tbX6_readLineOf := dk_of (by decide +kernel)
abbrev cdX6_readLineOf : Cond := Cond.code yX6_readLineOf cX6_readLineOf 2 none
abbrev rmX6_readLineOf : Room := { frames := 5, cells := 0, slots := 0, locals := 111 }
theorem mwX6_readLineOf : Cond.instanceMethod yX6_readLineOf ∈ wsL_law ∧ Cond.selects RX6 yX6_readLineOf yX6_readLineOf ∈ wsL_law ∧ Cond.initialized RX6 ∈ wsL_law ∧ cdX6_readLineOf ∈ wsL_law := ⟨inr14 _ (List.mem_of_getElem? (i := 17) rfl), inr14 _ (List.mem_of_getElem? (i := 18) rfl), inr1 _ (List.mem_of_getElem? (i := 5) rfl), inr14 _ (List.mem_of_getElem? (i := 19) rfl)⟩
theorem hdX6_readLineOf : yX6_readLineOf.cls = RX6 ∧ yX6_readLineOf.cls ≠ "java/lang/invoke/MethodHandle" ∧ yX6_readLineOf.cls ≠ "java/lang/invoke/VarHandle" ∧ (parseMethodDescriptor yX6_readLineOf.desc).map (fun d => d.parameters.length) = some 1 := by decide +kernel
set_option maxHeartbeats 4000000 in
set_option maxRecDepth 100000 in
theorem kX6_readLineOf (l : Launch) (g : Gx) (sz : Nat) (a_m : Nat → Nat) (st : AI) (now : AI) (isKept : AI) (hearers : Int32) (draft : AI) (dHearers : Int32) (dWalls : Int32) (toldWinds : Int32) (tape : AI) (taped : Int32) (pos : Int32) (frm : Int32) (sort : Int32) (value : Int32) (fault : Int32) (wrongAt : Int32) (landed : AI) (landedIn : AI) (stepped : AI) (isThere : AI) (isAt : AI) (isNext : AI) (landSum : Int64) (heardSum : Int64) (allWays : Int64) (ways : AI) (drawn : AI) (lanes : AI) (sizes : AI) (cells : AI) (torn : Int32) (before : AI) (p1 : Int32) (draft_o : AI) (dHearers_o : Int32) (dWalls_o : Int32) (toldWinds_o : Int32) (pos_o : Int32) (frm_o : Int32) (sort_o : Int32) (value_o : Int32) (fault_o : Int32) (wrongAt_o : Int32) (hf : fX6_readLineOf p1 draft dHearers dWalls toldWinds tape taped pos frm sort value fault wrongAt = some (draft_o, dHearers_o, dWalls_o, toldWinds_o, pos_o, frm_o, sort_o, value_o, fault_o, wrongAt_o)) : Met l yX6_readLineOf (cdX6_readLineOf :: wsL_law) rmX6_readLineOf (va_Pc [.ref (a_m 0), .int p1] (RWp g sz (wM g a_m st now isKept hearers draft dHearers dWalls toldWinds tape taped pos frm sort value fault wrongAt landed landedIn stepped isThere isAt isNext landSum heardSum allWays ways drawn lanes sizes cells torn before))) (va_Qv (fun _ : Unit => True) (fun _ => RWq g (va_A (wM g a_m st now isKept hearers draft dHearers dWalls toldWinds tape taped pos frm sort value fault wrongAt landed landedIn stepped isThere isAt isNext landSum heardSum allWays ways drawn lanes sizes cells torn before) sz) (wM g a_m st now isKept hearers draft_o dHearers_o dWalls_o toldWinds_o tape taped pos_o frm_o sort_o value_o fault_o wrongAt_o landed landedIn stepped isThere isAt isNext landSum heardSum allWays ways drawn lanes sizes cells torn before)) (va_A (wM g a_m st now isKept hearers draft dHearers dWalls toldWinds tape taped pos frm sort value fault wrongAt landed landedIn stepped isThere isAt isNext landSum heardSum allWays ways drawn lanes sizes cells torn before) sz)) 0 0 (va_A (wM g a_m st now isKept hearers draft dHearers dWalls toldWinds tape taped pos frm sort value fault wrongAt landed landedIn stepped isThere isAt isNext landSum heardSum allWays ways drawn lanes sizes cells torn before) sz) := by
  refine Met_rwv (cc := cX6_readLineOf) (maxL := 2) (by decide) rfl (Nat.le_of_ble_eq_true rfl) ?_
  intro P E Z Mi AR BE ME CO A Q C hK hA fin w ls hl
  have hl : lv_has ls 2 [(0, .ref (a_m 0)), (1, .int p1)] := hl
  unfold fX6_readLineOf at hf
  refine lv_iload_n C.1 C.2.1 (dk_at dkX6_readLineOf 0 rfl) rfl (lv_at hl 1 rfl) ?_
  by_cases c1 : p1 = 4
  · have hf := (if_pos c1).symm.trans hf
    refine lv_tableIn (tgt := 28) C.1 C.2.1 (dk_at dkX6_readLineOf 1 rfl) (by rw [c1]; decide) (by rw [c1]; decide) (by rw [c1]; rfl) (by decide) ?_
    refine lv_aload_n C.1 C.2.1 (dk_at dkX6_readLineOf 2 rfl) rfl (lv_at hl 0 rfl) ?_
    obtain ⟨draft_2, dWalls_3, pos_4, frm_5, sort_6, value_7, fault_8, wrongAt_9, hq10, hf⟩ := bd8_at hf
    refine r_rwv (As := []) (rest := []) (wr := []) (ws' := wM g a_m st now isKept hearers draft_2 dHearers dWalls_3 toldWinds tape taped pos_4 frm_5 sort_6 value_7 fault_8 wrongAt_9 landed landedIn stepped isThere isAt isNext landSum heardSum allWays ways drawn lanes sizes cells torn before) C (kX6_readWall l g _ a_m st now isKept hearers draft dHearers dWalls toldWinds tape taped pos frm sort value fault wrongAt landed landedIn stepped isThere isAt isNext landSum heardSum allWays ways drawn lanes sizes cells torn before draft_2 dWalls_3 pos_4 frm_5 sort_6 value_7 fault_8 wrongAt_9 hq10) (cwV0 C (inr14 _ (List.mem_of_getElem? (i := 20) rfl)) mwX6_readWall hdX6_readWall ⟨Nat.le_of_ble_eq_true rfl, Nat.le_of_ble_eq_true rfl⟩) hK w hA [0, 1, 2, 3, 4, 5, 6, 7, 8, 9, 10, 11, 12, 13, 14, 15, 16, 17] [] [0, 1, 2, 3, 4, 5, 6, 7, 8, 9, 10, 11, 12, 13, 14, 15, 16, 17] (by decide) rfl rfl (by decide) (by decide) rfl (by decide) rfl rfl rfl hl.1 rfl (Nat.le_of_ble_eq_true rfl) ⟨Nat.zero_le _, Nat.zero_le _⟩ (dk_at dkX6_readLineOf 3 rfl) (fun H locs w => ?_)
    refine lv_goto (tgt := 76) C.1 C.2.1 (dk_at dkX6_readLineOf 4 rfl) (by decide) ?_
    cases hf
    exact fin _ _ _ _ (dk_at dkX6_readLineOf 27 rfl) w
  have hf := (if_neg c1).symm.trans hf
  by_cases c11 : p1 = 5
  · have hf := (if_pos c11).symm.trans hf
    refine lv_tableIn (tgt := 42) C.1 C.2.1 (dk_at dkX6_readLineOf 1 rfl) (by rw [c11]; decide) (by rw [c11]; decide) (by rw [c11]; rfl) (by decide) ?_
    refine lv_aload_n C.1 C.2.1 (dk_at dkX6_readLineOf 8 rfl) rfl (lv_at hl 0 rfl) ?_
    refine r_get (v := .ref (a_m 4)) C hK w.1 (fun w h => List.mem_cons_of_mem _ (inlX6 w h)) 0 rfl rfl 4 (by decide) (List.mem_cons_of_mem _ (inr4 _ (List.mem_of_getElem? (i := 7) rfl))) rfl (dk_at dkX6_readLineOf 9 rfl) ?_
    refine lv_bipush (v := 44) C.1 C.2.1 (dk_at dkX6_readLineOf 10 rfl) (by decide) ?_
    refine lv_aload_n C.1 C.2.1 (dk_at dkX6_readLineOf 11 rfl) rfl (lv_at hl 0 rfl) ?_
    refine r_get (v := .int dHearers) C hK w.1 (fun w h => List.mem_cons_of_mem _ (inlX6 w h)) 0 rfl rfl 5 (by decide) (List.mem_cons_of_mem _ (inr5 _ (List.mem_of_getElem? (i := 1) rfl))) rfl (dk_at dkX6_readLineOf 12 rfl) ?_
    refine lv_iadd C.1 C.2.1 (dk_at dkX6_readLineOf 13 rfl) ?_
    refine lv_topi (fun x12 ex12 => ?_)
    have hf := nm_at ex12 hf
    refine lv_aload_n C.1 C.2.1 (dk_at dkX6_readLineOf 14 rfl) rfl (lv_at hl 0 rfl) ?_
    obtain ⟨r13, pos_14, frm_15, sort_16, value_17, fault_18, wrongAt_19, hq20, hf⟩ := bd7_at hf
    refine r_rwi (As := []) (rest := [.int x12, .ref (a_m 4)]) (wr := []) (ws' := wM g a_m st now isKept hearers draft dHearers dWalls toldWinds tape taped pos_14 frm_15 sort_16 value_17 fault_18 wrongAt_19 landed landedIn stepped isThere isAt isNext landSum heardSum allWays ways drawn lanes sizes cells torn before) C (kX6_readCell l g _ a_m st now isKept hearers draft dHearers dWalls toldWinds tape taped pos frm sort value fault wrongAt landed landedIn stepped isThere isAt isNext landSum heardSum allWays ways drawn lanes sizes cells torn before r13 pos_14 frm_15 sort_16 value_17 fault_18 wrongAt_19 hq20) (cwV0 C (inr15 _ (List.mem_of_getElem? (i := 19) rfl)) mwX6_readCell hdX6_readCell ⟨Nat.le_of_ble_eq_true rfl, Nat.le_of_ble_eq_true rfl⟩) hK w hA [0, 1, 2, 3, 4, 5, 6, 7, 8, 9, 10, 11, 12, 13, 14, 15, 16, 17] [] [0, 1, 2, 3, 4, 5, 6, 7, 8, 9, 10, 11, 12, 13, 14, 15, 16, 17] (by decide) rfl rfl (by decide) (by decide) rfl (by decide) rfl rfl rfl hl.1 rfl (Nat.le_of_ble_eq_true rfl) ⟨Nat.zero_le _, Nat.zero_le _⟩ (dk_at dkX6_readLineOf 15 rfl) (fun H locs w => ?_)
    obtain ⟨h21, hf⟩ := gd_at hf
    refine r_iast (k := x12.toNatClampNeg) (f := draft) C hK w 4 rfl h21 rfl (dk_at dkX6_readLineOf 16 rfl) (fun H locs w => ?_)
    obtain ⟨draft_22, edraft_22⟩ : ∃ z : AI, z = upd draft x12.toNatClampNeg r13 := ⟨_, rfl⟩
    have hf := nm_at edraft_22 hf
    have w : Wd g A Z.heap (wM g a_m st now isKept hearers draft_22 dHearers dWalls toldWinds tape taped pos_14 frm_15 sort_16 value_17 fault_18 wrongAt_19 landed landedIn stepped isThere isAt isNext landSum heardSum allWays ways drawn lanes sizes cells torn before) H locs := by rw [edraft_22]; exact w
    refine lv_aload_n C.1 C.2.1 (dk_at dkX6_readLineOf 17 rfl) rfl (lv_at hl 0 rfl) ?_
    refine lv_dup C.1 C.2.1 (dk_at dkX6_readLineOf 18 rfl) rfl ?_
    refine r_get (v := .int dHearers) C hK w.1 (fun w h => List.mem_cons_of_mem _ (inlX6 w h)) 0 rfl rfl 5 (by decide) (List.mem_cons_of_mem _ (inr5 _ (List.mem_of_getElem? (i := 1) rfl))) rfl (dk_at dkX6_readLineOf 19 rfl) ?_
    refine lv_iconst (v := 1) C.1 C.2.1 (dk_at dkX6_readLineOf 20 rfl) (by decide) ?_
    refine lv_iadd C.1 C.2.1 (dk_at dkX6_readLineOf 21 rfl) ?_
    refine lv_topi (fun x23 ex23 => ?_)
    have hf := nm_at ex23 hf
    refine r_put (v := .int x23) C hK w (fun w h => List.mem_cons_of_mem _ (inlX6 w h)) tyX6 tyX6_ok nmX6 0 rfl rfl 5 (by decide) (List.mem_cons_of_mem _ (inr5 _ (List.mem_of_getElem? (i := 1) rfl))) rfl rfl rfl (Nat.le_of_ble_eq_true rfl) (dk_at dkX6_readLineOf 22 rfl) (fun H locs w => ?_)
    have w : Wd g A Z.heap (wM g a_m st now isKept hearers draft_22 x23 dWalls toldWinds tape taped pos_14 frm_15 sort_16 value_17 fault_18 wrongAt_19 landed landedIn stepped isThere isAt isNext landSum heardSum allWays ways drawn lanes sizes cells torn before) H locs := w
    refine lv_goto (tgt := 76) C.1 C.2.1 (dk_at dkX6_readLineOf 23 rfl) (by decide) ?_
    cases hf
    exact fin _ _ _ _ (dk_at dkX6_readLineOf 27 rfl) w
  have hf := (if_neg c11).symm.trans hf
  by_cases c24 : p1 = 6
  · have hf := (if_pos c24).symm.trans hf
    refine lv_tableIn (tgt := 35) C.1 C.2.1 (dk_at dkX6_readLineOf 1 rfl) (by rw [c24]; decide) (by rw [c24]; decide) (by rw [c24]; rfl) (by decide) ?_
    refine lv_aload_n C.1 C.2.1 (dk_at dkX6_readLineOf 5 rfl) rfl (lv_at hl 0 rfl) ?_
    obtain ⟨draft_25, toldWinds_26, pos_27, frm_28, sort_29, value_30, fault_31, wrongAt_32, hq33, hf⟩ := bd8_at hf
    refine r_rwv (As := []) (rest := []) (wr := []) (ws' := wM g a_m st now isKept hearers draft_25 dHearers dWalls toldWinds_26 tape taped pos_27 frm_28 sort_29 value_30 fault_31 wrongAt_32 landed landedIn stepped isThere isAt isNext landSum heardSum allWays ways drawn lanes sizes cells torn before) C (kX6_readWind l g _ a_m st now isKept hearers draft dHearers dWalls toldWinds tape taped pos frm sort value fault wrongAt landed landedIn stepped isThere isAt isNext landSum heardSum allWays ways drawn lanes sizes cells torn before draft_25 toldWinds_26 pos_27 frm_28 sort_29 value_30 fault_31 wrongAt_32 hq33) (cwV0 C (inr15 _ (List.mem_of_getElem? (i := 11) rfl)) mwX6_readWind hdX6_readWind ⟨Nat.le_of_ble_eq_true rfl, Nat.le_of_ble_eq_true rfl⟩) hK w hA [0, 1, 2, 3, 4, 5, 6, 7, 8, 9, 10, 11, 12, 13, 14, 15, 16, 17] [] [0, 1, 2, 3, 4, 5, 6, 7, 8, 9, 10, 11, 12, 13, 14, 15, 16, 17] (by decide) rfl rfl (by decide) (by decide) rfl (by decide) rfl rfl rfl hl.1 rfl (Nat.le_of_ble_eq_true rfl) ⟨Nat.zero_le _, Nat.zero_le _⟩ (dk_at dkX6_readLineOf 6 rfl) (fun H locs w => ?_)
    refine lv_goto (tgt := 76) C.1 C.2.1 (dk_at dkX6_readLineOf 7 rfl) (by decide) ?_
    cases hf
    exact fin _ _ _ _ (dk_at dkX6_readLineOf 27 rfl) w
  have hf := (if_neg c24).symm.trans hf
  have c1n : p1.toInt ≠ 4 := fun q => c1 (by rw [← Int32.ofInt_toInt p1, q]; rfl)
  have c11n : p1.toInt ≠ 5 := fun q => c11 (by rw [← Int32.ofInt_toInt p1, q]; rfl)
  have c24n : p1.toInt ≠ 6 := fun q => c24 (by rw [← Int32.ofInt_toInt p1, q]; rfl)
  refine lv_tableOut (tgt := 71) C.1 C.2.1 (dk_at dkX6_readLineOf 1 rfl) (by omega) (by decide) ?_
  refine lv_aload_n C.1 C.2.1 (dk_at dkX6_readLineOf 24 rfl) rfl (lv_at hl 0 rfl) ?_
  refine lv_iload_n C.1 C.2.1 (dk_at dkX6_readLineOf 25 rfl) rfl (lv_at hl 1 rfl) ?_
  obtain ⟨draft_34, pos_35, frm_36, sort_37, value_38, fault_39, wrongAt_40, hq41, hf⟩ := bd7_at hf
  refine r_rwv (As := [.int p1]) (rest := []) (wr := []) (ws' := wM g a_m st now isKept hearers draft_34 dHearers dWalls toldWinds tape taped pos_35 frm_36 sort_37 value_38 fault_39 wrongAt_40 landed landedIn stepped isThere isAt isNext landSum heardSum allWays ways drawn lanes sizes cells torn before) C (kX6_readSaying l g _ a_m st now isKept hearers draft dHearers dWalls toldWinds tape taped pos frm sort value fault wrongAt landed landedIn stepped isThere isAt isNext landSum heardSum allWays ways drawn lanes sizes cells torn before p1 draft_34 pos_35 frm_36 sort_37 value_38 fault_39 wrongAt_40 hq41) (cwV0 C (inr15 _ (List.mem_of_getElem? (i := 23) rfl)) mwX6_readSaying hdX6_readSaying ⟨Nat.le_of_ble_eq_true rfl, Nat.le_of_ble_eq_true rfl⟩) hK w hA [0, 1, 2, 3, 4, 5, 6, 7, 8, 9, 10, 11, 12, 13, 14, 15, 16, 17] [] [0, 1, 2, 3, 4, 5, 6, 7, 8, 9, 10, 11, 12, 13, 14, 15, 16, 17] (by decide) rfl rfl (by decide) (by decide) rfl (by decide) rfl rfl rfl hl.1 rfl (Nat.le_of_ble_eq_true rfl) ⟨Nat.zero_le _, Nat.zero_le _⟩ (dk_at dkX6_readLineOf 26 rfl) (fun H locs w => ?_)
  cases hf
  exact fin _ _ _ _ (dk_at dkX6_readLineOf 27 rfl) w
-- X6.hasRoom
abbrev tbX6_hasRoom : List (Nat × Instr × Nat) := [(0, .iload_n 1, 1), (1, .iconst 4, 1), (2, .if_icmp .ne 20, 3), (5, .aload_n 0, 1), (6, .getfield 72, 3), (9, .bipush 12, 2), (11, .if_icmp .ge 7, 3), (14, .iconst 1, 1), (15, .goto 50, 3), (18, .iconst 0, 1), (19, .goto 46, 3), (22, .iload_n 1, 1), (23, .iconst 5, 1), (24, .if_icmp .ne 19, 3), (27, .aload_n 0, 1), (28, .getfield 68, 3), (31, .iconst 4, 1), (32, .if_icmp .ge 7, 3), (35, .iconst 1, 1), (36, .goto 29, 3), (39, .iconst 0, 1), (40, .goto 25, 3), (43, .iload_n 1, 1), (44, .bipush 6, 2), (46, .if_icmp .eq 14, 3), (49, .aload_n 0, 1), (50, .getfield 20, 3), (53, .bipush 43, 2), (55, .iaload, 1), (56, .iconst 5, 1), (57, .if_icmp .ge 7, 3), (60, .iconst 1, 1), (61, .goto 4, 3), (64, .iconst 0, 1), (65, .ireturn, 1)]
theorem dkX6_hasRoom : dk cX6_hasRoom tbX6_hasRoom := dk_of (by decide +kernel)
abbrev cdX6_hasRoom : Cond := Cond.code yX6_hasRoom cX6_hasRoom 2 (some .boolean)
abbrev rmX6_hasRoom : Room := { frames := 0, cells := 0, slots := 0, locals := 0 }
theorem mwX6_hasRoom : Cond.instanceMethod yX6_hasRoom ∈ wsL_law ∧ Cond.selects RX6 yX6_hasRoom yX6_hasRoom ∈ wsL_law ∧ Cond.initialized RX6 ∈ wsL_law ∧ cdX6_hasRoom ∈ wsL_law := ⟨inr14 _ (List.mem_of_getElem? (i := 13) rfl), inr14 _ (List.mem_of_getElem? (i := 14) rfl), inr1 _ (List.mem_of_getElem? (i := 5) rfl), inr14 _ (List.mem_of_getElem? (i := 15) rfl)⟩
theorem hdX6_hasRoom : yX6_hasRoom.cls = RX6 ∧ yX6_hasRoom.cls ≠ "java/lang/invoke/MethodHandle" ∧ yX6_hasRoom.cls ≠ "java/lang/invoke/VarHandle" ∧ (parseMethodDescriptor yX6_hasRoom.desc).map (fun d => d.parameters.length) = some 1 := by decide +kernel
set_option maxHeartbeats 4000000 in
set_option maxRecDepth 100000 in
theorem kX6_hasRoom (l : Launch) (g : Gx) (a_m : Nat → Nat) (st : AI) (now : AI) (isKept : AI) (hearers : Int32) (draft : AI) (dHearers : Int32) (dWalls : Int32) (toldWinds : Int32) (tape : AI) (taped : Int32) (pos : Int32) (frm : Int32) (sort : Int32) (value : Int32) (fault : Int32) (wrongAt : Int32) (landed : AI) (landedIn : AI) (stepped : AI) (isThere : AI) (isAt : AI) (isNext : AI) (landSum : Int64) (heardSum : Int64) (allWays : Int64) (ways : AI) (drawn : AI) (lanes : AI) (sizes : AI) (cells : AI) (torn : Int32) (before : AI) (p1 : Int32) (res : Int32) (hf : fX6_hasRoom p1 draft dHearers dWalls = some res) : Met l yX6_hasRoom (cdX6_hasRoom :: wsL_law) rmX6_hasRoom (va_Pc [.ref (a_m 0), .int p1] (RO g (wM g a_m st now isKept hearers draft dHearers dWalls toldWinds tape taped pos frm sort value fault wrongAt landed landedIn stepped isThere isAt isNext landSum heardSum allWays ways drawn lanes sizes cells torn before))) (vp_Si (fun x => x = res)) 0 0 (fun _ => False) := by
  refine Met_roz (cc := cX6_hasRoom) (maxL := 2) (by decide) rfl (Nat.le_of_ble_eq_true rfl) ?_
  intro P E Z Mi AR BE ME CO Q C fin hK hP ls hl
  have hl : lv_has ls 2 [(0, .ref (a_m 0)), (1, .int p1)] := hl
  unfold fX6_hasRoom at hf
  refine lv_iload_n C.1 C.2.1 (dk_at dkX6_hasRoom 0 rfl) rfl (lv_at hl 1 rfl) ?_
  refine lv_iconst (v := 4) C.1 C.2.1 (dk_at dkX6_hasRoom 1 rfl) (by decide) ?_
  refine lv_icmp_ne (tgt := 22) C.1 C.2.1 (dk_at dkX6_hasRoom 2 rfl) (by decide) (fun c1 => ?_) (fun c1 => ?_)
  · have hf := (if_neg c1).symm.trans hf
    refine lv_iload_n C.1 C.2.1 (dk_at dkX6_hasRoom 11 rfl) rfl (lv_at hl 1 rfl) ?_
    refine lv_iconst (v := 5) C.1 C.2.1 (dk_at dkX6_hasRoom 12 rfl) (by decide) ?_
    refine lv_icmp_ne (tgt := 43) C.1 C.2.1 (dk_at dkX6_hasRoom 13 rfl) (by decide) (fun c2 => ?_) (fun c2 => ?_)
    · have hf := (if_neg c2).symm.trans hf
      refine lv_iload_n C.1 C.2.1 (dk_at dkX6_hasRoom 22 rfl) rfl (lv_at hl 1 rfl) ?_
      refine lv_bipush (v := 6) C.1 C.2.1 (dk_at dkX6_hasRoom 23 rfl) (by decide) ?_
      refine lv_icmp_eq (tgt := 60) C.1 C.2.1 (dk_at dkX6_hasRoom 24 rfl) (by decide) (fun c3 => ?_) (fun c3 => ?_)
      · have hf := (if_pos c3).symm.trans hf
        refine lv_iconst (v := 1) C.1 C.2.1 (dk_at dkX6_hasRoom 31 rfl) (by decide) ?_
        refine lv_goto (tgt := 65) C.1 C.2.1 (dk_at dkX6_hasRoom 32 rfl) (by decide) ?_
        cases hf
        exact fin _ _ _ (dk_at dkX6_hasRoom 34 rfl) rfl rfl
      · have hf := (if_neg c3).symm.trans hf
        refine lv_aload_n C.1 C.2.1 (dk_at dkX6_hasRoom 25 rfl) rfl (lv_at hl 0 rfl) ?_
        refine r_get (v := .ref (a_m 4)) C hK hP (fun w h => List.mem_cons_of_mem _ (inlX6 w h)) 0 rfl rfl 4 (by decide) (List.mem_cons_of_mem _ (inr4 _ (List.mem_of_getElem? (i := 7) rfl))) rfl (dk_at dkX6_hasRoom 26 rfl) ?_
        refine lv_bipush (v := 43) C.1 C.2.1 (dk_at dkX6_hasRoom 27 rfl) (by decide) ?_
        refine r_iald (k := 43) (f := draft) C hK hP 4 rfl (in_c (by decide)) (by decide) (dk_at dkX6_hasRoom 28 rfl) ?_
        refine lv_topi (fun x4 ex4 => ?_)
        have hf := nm_at ex4 hf
        refine lv_iconst (v := 5) C.1 C.2.1 (dk_at dkX6_hasRoom 29 rfl) (by decide) ?_
        refine lv_icmp_ge (tgt := 64) C.1 C.2.1 (dk_at dkX6_hasRoom 30 rfl) (by decide) (fun c5 => ?_) (fun c5 => ?_)
        · have hf := (if_pos c5).symm.trans hf
          refine lv_iconst (v := 0) C.1 C.2.1 (dk_at dkX6_hasRoom 33 rfl) (by decide) ?_
          cases hf
          exact fin _ _ _ (dk_at dkX6_hasRoom 34 rfl) rfl rfl
        · have hf := (if_neg c5).symm.trans hf
          refine lv_iconst (v := 1) C.1 C.2.1 (dk_at dkX6_hasRoom 31 rfl) (by decide) ?_
          refine lv_goto (tgt := 65) C.1 C.2.1 (dk_at dkX6_hasRoom 32 rfl) (by decide) ?_
          cases hf
          exact fin _ _ _ (dk_at dkX6_hasRoom 34 rfl) rfl rfl
    · have hf := (if_pos c2).symm.trans hf
      refine lv_aload_n C.1 C.2.1 (dk_at dkX6_hasRoom 14 rfl) rfl (lv_at hl 0 rfl) ?_
      refine r_get (v := .int dHearers) C hK hP (fun w h => List.mem_cons_of_mem _ (inlX6 w h)) 0 rfl rfl 5 (by decide) (List.mem_cons_of_mem _ (inr5 _ (List.mem_of_getElem? (i := 1) rfl))) rfl (dk_at dkX6_hasRoom 15 rfl) ?_
      refine lv_iconst (v := 4) C.1 C.2.1 (dk_at dkX6_hasRoom 16 rfl) (by decide) ?_
      refine lv_icmp_ge (tgt := 39) C.1 C.2.1 (dk_at dkX6_hasRoom 17 rfl) (by decide) (fun c6 => ?_) (fun c6 => ?_)
      · have hf := (if_pos c6).symm.trans hf
        refine lv_iconst (v := 0) C.1 C.2.1 (dk_at dkX6_hasRoom 20 rfl) (by decide) ?_
        refine lv_goto (tgt := 65) C.1 C.2.1 (dk_at dkX6_hasRoom 21 rfl) (by decide) ?_
        cases hf
        exact fin _ _ _ (dk_at dkX6_hasRoom 34 rfl) rfl rfl
      · have hf := (if_neg c6).symm.trans hf
        refine lv_iconst (v := 1) C.1 C.2.1 (dk_at dkX6_hasRoom 18 rfl) (by decide) ?_
        refine lv_goto (tgt := 65) C.1 C.2.1 (dk_at dkX6_hasRoom 19 rfl) (by decide) ?_
        cases hf
        exact fin _ _ _ (dk_at dkX6_hasRoom 34 rfl) rfl rfl
  · have hf := (if_pos c1).symm.trans hf
    refine lv_aload_n C.1 C.2.1 (dk_at dkX6_hasRoom 3 rfl) rfl (lv_at hl 0 rfl) ?_
    refine r_get (v := .int dWalls) C hK hP (fun w h => List.mem_cons_of_mem _ (inlX6 w h)) 0 rfl rfl 6 (by decide) (List.mem_cons_of_mem _ (inr5 _ (List.mem_of_getElem? (i := 2) rfl))) rfl (dk_at dkX6_hasRoom 4 rfl) ?_
    refine lv_bipush (v := 12) C.1 C.2.1 (dk_at dkX6_hasRoom 5 rfl) (by decide) ?_
    refine lv_icmp_ge (tgt := 18) C.1 C.2.1 (dk_at dkX6_hasRoom 6 rfl) (by decide) (fun c7 => ?_) (fun c7 => ?_)
    · have hf := (if_pos c7).symm.trans hf
      refine lv_iconst (v := 0) C.1 C.2.1 (dk_at dkX6_hasRoom 9 rfl) (by decide) ?_
      refine lv_goto (tgt := 65) C.1 C.2.1 (dk_at dkX6_hasRoom 10 rfl) (by decide) ?_
      cases hf
      exact fin _ _ _ (dk_at dkX6_hasRoom 34 rfl) rfl rfl
    · have hf := (if_neg c7).symm.trans hf
      refine lv_iconst (v := 1) C.1 C.2.1 (dk_at dkX6_hasRoom 7 rfl) (by decide) ?_
      refine lv_goto (tgt := 65) C.1 C.2.1 (dk_at dkX6_hasRoom 8 rfl) (by decide) ?_
      cases hf
      exact fin _ _ _ (dk_at dkX6_hasRoom 34 rfl) rfl rfl
-- X6.readLine
abbrev tbX6_readLine : List (Nat × Instr × Nat) := [(0, .aload_n 0, 1), (1, .getfield 118, 3), (4, .iconst 1, 1), (5, .if_icmp .ne 10, 3), (8, .aload_n 0, 1), (9, .invokevirtual 166, 3), (12, .goto 5, 3), (15, .bipush (-4), 2), (17, .istore_n 1, 1), (18, .aload_n 0, 1), (19, .iload_n 1, 1), (20, .bipush (-4), 2), (22, .if_icmp .eq 7, 3), (25, .iconst 1, 1), (26, .goto 4, 3), (29, .iconst 0, 1), (30, .iconst 2, 1), (31, .invokevirtual 132, 3), (34, .aload_n 0, 1), (35, .aload_n 0, 1), (36, .iload_n 1, 1), (37, .invokevirtual 169, 3), (40, .iconst 5, 1), (41, .invokevirtual 132, 3), (44, .aload_n 0, 1), (45, .invokevirtual 144, 3), (48, .aload_n 0, 1), (49, .getfield 90, 3), (52, .ifCond .le 4, 3), (55, .return_, 1), (56, .aload_n 0, 1), (57, .iload_n 1, 1), (58, .invokevirtual 172, 3), (61, .aload_n 0, 1), (62, .getfield 90, 3), (65, .ifCond .ne 21, 3), (68, .aload_n 0, 1), (69, .aload_n 0, 1), (70, .getfield 118, 3), (73, .iconst 3, 1), (74, .if_icmp .ne 7, 3), (77, .iconst 1, 1), (78, .goto 4, 3), (81, .iconst 0, 1), (82, .iconst 2, 1), (83, .invokevirtual 132, 3), (86, .aload_n 0, 1), (87, .invokevirtual 144, 3), (90, .return_, 1)]
theorem dkX6_readLine : dk cX6_readLine tbX6_readLine := dk_of (by decide +kernel)
abbrev cdX6_readLine : Cond := Cond.code yX6_readLine cX6_readLine 2 none
abbrev rmX6_readLine : Room := { frames := 6, cells := 0, slots := 0, locals := 132 }
theorem mwX6_readLine : Cond.instanceMethod yX6_readLine ∈ wsL_law ∧ Cond.selects RX6 yX6_readLine yX6_readLine ∈ wsL_law ∧ Cond.initialized RX6 ∈ wsL_law ∧ cdX6_readLine ∈ wsL_law := ⟨inr13 _ (List.mem_of_getElem? (i := 17) rfl), inr13 _ (List.mem_of_getElem? (i := 18) rfl), inr1 _ (List.mem_of_getElem? (i := 5) rfl), inr13 _ (List.mem_of_getElem? (i := 19) rfl)⟩
theorem hdX6_readLine : yX6_readLine.cls = RX6 ∧ yX6_readLine.cls ≠ "java/lang/invoke/MethodHandle" ∧ yX6_readLine.cls ≠ "java/lang/invoke/VarHandle" ∧ (parseMethodDescriptor yX6_readLine.desc).map (fun d => d.parameters.length) = some 0 := by decide +kernel
set_option maxHeartbeats 4000000 in
set_option maxRecDepth 100000 in
theorem kX6_readLine (l : Launch) (g : Gx) (sz : Nat) (a_m : Nat → Nat) (st : AI) (now : AI) (isKept : AI) (hearers : Int32) (draft : AI) (dHearers : Int32) (dWalls : Int32) (toldWinds : Int32) (tape : AI) (taped : Int32) (pos : Int32) (frm : Int32) (sort : Int32) (value : Int32) (fault : Int32) (wrongAt : Int32) (landed : AI) (landedIn : AI) (stepped : AI) (isThere : AI) (isAt : AI) (isNext : AI) (landSum : Int64) (heardSum : Int64) (allWays : Int64) (ways : AI) (drawn : AI) (lanes : AI) (sizes : AI) (cells : AI) (torn : Int32) (before : AI) (draft_o : AI) (dHearers_o : Int32) (dWalls_o : Int32) (toldWinds_o : Int32) (pos_o : Int32) (frm_o : Int32) (sort_o : Int32) (value_o : Int32) (fault_o : Int32) (wrongAt_o : Int32) (hf : fX6_readLine draft dHearers dWalls toldWinds tape taped pos frm sort value fault wrongAt = some (draft_o, dHearers_o, dWalls_o, toldWinds_o, pos_o, frm_o, sort_o, value_o, fault_o, wrongAt_o)) : Met l yX6_readLine (cdX6_readLine :: wsL_law) rmX6_readLine (va_Pc [.ref (a_m 0)] (RWp g sz (wM g a_m st now isKept hearers draft dHearers dWalls toldWinds tape taped pos frm sort value fault wrongAt landed landedIn stepped isThere isAt isNext landSum heardSum allWays ways drawn lanes sizes cells torn before))) (va_Qv (fun _ : Unit => True) (fun _ => RWq g (va_A (wM g a_m st now isKept hearers draft dHearers dWalls toldWinds tape taped pos frm sort value fault wrongAt landed landedIn stepped isThere isAt isNext landSum heardSum allWays ways drawn lanes sizes cells torn before) sz) (wM g a_m st now isKept hearers draft_o dHearers_o dWalls_o toldWinds_o tape taped pos_o frm_o sort_o value_o fault_o wrongAt_o landed landedIn stepped isThere isAt isNext landSum heardSum allWays ways drawn lanes sizes cells torn before)) (va_A (wM g a_m st now isKept hearers draft dHearers dWalls toldWinds tape taped pos frm sort value fault wrongAt landed landedIn stepped isThere isAt isNext landSum heardSum allWays ways drawn lanes sizes cells torn before) sz)) 0 0 (va_A (wM g a_m st now isKept hearers draft dHearers dWalls toldWinds tape taped pos frm sort value fault wrongAt landed landedIn stepped isThere isAt isNext landSum heardSum allWays ways drawn lanes sizes cells torn before) sz) := by
  refine Met_rwv (cc := cX6_readLine) (maxL := 2) (by decide) rfl (Nat.le_of_ble_eq_true rfl) ?_
  intro P E Z Mi AR BE ME CO A Q C hK hA fin w ls hl
  have hl : lv_has ls 2 [(0, .ref (a_m 0))] := hl
  unfold fX6_readLine at hf
  refine lv_aload_n C.1 C.2.1 (dk_at dkX6_readLine 0 rfl) rfl (lv_at hl 0 rfl) ?_
  refine r_get (v := .int sort) C hK w.1 (fun w h => List.mem_cons_of_mem _ (inlX6 w h)) 0 rfl rfl 12 (by decide) (List.mem_cons_of_mem _ (inr12 _ (List.mem_of_getElem? (i := 20) rfl))) rfl (dk_at dkX6_readLine 1 rfl) ?_
  refine lv_iconst (v := 1) C.1 C.2.1 (dk_at dkX6_readLine 2 rfl) (by decide) ?_
  obtain ⟨y1, hq2, hf⟩ := bd1_at hf
  have J3 : ∀ (H : Heap) (locs : List Loc) (ls : Array Slot), Wd g A Z.heap (wM g a_m st now isKept hearers draft dHearers dWalls toldWinds tape taped pos frm sort value fault wrongAt landed landedIn stepped isThere isAt isNext landSum heardSum allWays ways drawn lanes sizes cells torn before) H locs → lv_has ls 2 [(0, .ref (a_m 0))] → W P l E rmX6_readLine Z Mi AR BE ME CO H locs 0 0 Q (F0 Mi 17 ls [.int y1]) := by
    intro H locs ls w hl
    refine lv_istore_n (lv' := [(1, .int y1), (0, .ref (a_m 0))]) C.1 C.2.1 (dk_at dkX6_readLine 8 rfl) rfl hl (by decide) rfl (fun ls hl => ?_)
    refine lv_aload_n C.1 C.2.1 (dk_at dkX6_readLine 9 rfl) rfl (lv_at hl 1 rfl) ?_
    refine lv_iload_n C.1 C.2.1 (dk_at dkX6_readLine 10 rfl) rfl (lv_at hl 0 rfl) ?_
    refine lv_bipush (v := (-4)) C.1 C.2.1 (dk_at dkX6_readLine 11 rfl) (by decide) ?_
    obtain ⟨y4, hq5, hf⟩ := bd1_at hf
    have J6 : ∀ (H : Heap) (locs : List Loc) (ls : Array Slot), Wd g A Z.heap (wM g a_m st now isKept hearers draft dHearers dWalls toldWinds tape taped pos frm sort value fault wrongAt landed landedIn stepped isThere isAt isNext landSum heardSum allWays ways drawn lanes sizes cells torn before) H locs → lv_has ls 2 [(1, .int y1), (0, .ref (a_m 0))] → W P l E rmX6_readLine Z Mi AR BE ME CO H locs 0 0 Q (F0 Mi 30 ls [.int y4, .ref (a_m 0)]) := by
      intro H locs ls w hl
      refine lv_iconst (v := 2) C.1 C.2.1 (dk_at dkX6_readLine 16 rfl) (by decide) ?_
      obtain ⟨fault_7, wrongAt_8, hq9, hf⟩ := bd2_at hf
      refine r_rwv (As := [.int y4, .int 2]) (rest := []) (wr := []) (ws' := wM g a_m st now isKept hearers draft dHearers dWalls toldWinds tape taped pos frm sort value fault_7 wrongAt_8 landed landedIn stepped isThere isAt isNext landSum heardSum allWays ways drawn lanes sizes cells torn before) C (kX6_needs l g _ a_m st now isKept hearers draft dHearers dWalls toldWinds tape taped pos frm sort value fault wrongAt landed landedIn stepped isThere isAt isNext landSum heardSum allWays ways drawn lanes sizes cells torn before y4 2 fault_7 wrongAt_8 hq9) (cwV0 C (inr13 _ (List.mem_of_getElem? (i := 12) rfl)) mwX6_needs hdX6_needs ⟨Nat.le_of_ble_eq_true rfl, Nat.le_of_ble_eq_true rfl⟩) hK w hA [0, 1, 2, 3, 4, 5, 6, 7, 8, 9, 10, 11, 12, 13, 14, 15, 16, 17] [] [0, 1, 2, 3, 4, 5, 6, 7, 8, 9, 10, 11, 12, 13, 14, 15, 16, 17] (by decide) rfl rfl (by decide) (by decide) rfl (by decide) rfl rfl rfl hl.1 rfl (Nat.le_of_ble_eq_true rfl) ⟨Nat.zero_le _, Nat.zero_le _⟩ (dk_at dkX6_readLine 17 rfl) (fun H locs w => ?_)
      refine lv_aload_n C.1 C.2.1 (dk_at dkX6_readLine 18 rfl) rfl (lv_at hl 1 rfl) ?_
      refine lv_aload_n C.1 C.2.1 (dk_at dkX6_readLine 19 rfl) rfl (lv_at hl 1 rfl) ?_
      refine lv_iload_n C.1 C.2.1 (dk_at dkX6_readLine 20 rfl) rfl (lv_at hl 0 rfl) ?_
      obtain ⟨r10, hq11, hf⟩ := bd1_at hf
      refine r_roV (As := [.int y1]) (rest := [.ref (a_m 0)]) C (kX6_hasRoom l g a_m st now isKept hearers draft dHearers dWalls toldWinds tape taped pos frm sort value fault_7 wrongAt_8 landed landedIn stepped isThere isAt isNext landSum heardSum allWays ways drawn lanes sizes cells torn before y1 r10 hq11) (cwV0 C (inr14 _ (List.mem_of_getElem? (i := 12) rfl)) mwX6_hasRoom hdX6_hasRoom ⟨Nat.le_of_ble_eq_true rfl, Nat.le_of_ble_eq_true rfl⟩) hK w.1 rfl rfl rfl hl.1 rfl (Nat.le_of_ble_eq_true rfl) ⟨Nat.zero_le _, Nat.zero_le _⟩ (dk_at dkX6_readLine 21 rfl) ?_
      refine lv_iconst (v := 5) C.1 C.2.1 (dk_at dkX6_readLine 22 rfl) (by decide) ?_
      obtain ⟨fault_12, wrongAt_13, hq14, hf⟩ := bd2_at hf
      refine r_rwv (As := [.int r10, .int 5]) (rest := []) (wr := []) (ws' := wM g a_m st now isKept hearers draft dHearers dWalls toldWinds tape taped pos frm sort value fault_12 wrongAt_13 landed landedIn stepped isThere isAt isNext landSum heardSum allWays ways drawn lanes sizes cells torn before) C (kX6_needs l g _ a_m st now isKept hearers draft dHearers dWalls toldWinds tape taped pos frm sort value fault_7 wrongAt_8 landed landedIn stepped isThere isAt isNext landSum heardSum allWays ways drawn lanes sizes cells torn before r10 5 fault_12 wrongAt_13 hq14) (cwV0 C (inr13 _ (List.mem_of_getElem? (i := 12) rfl)) mwX6_needs hdX6_needs ⟨Nat.le_of_ble_eq_true rfl, Nat.le_of_ble_eq_true rfl⟩) hK w hA [0, 1, 2, 3, 4, 5, 6, 7, 8, 9, 10, 11, 12, 13, 14, 15, 16, 17] [] [0, 1, 2, 3, 4, 5, 6, 7, 8, 9, 10, 11, 12, 13, 14, 15, 16, 17] (by decide) rfl rfl (by decide) (by decide) rfl (by decide) rfl rfl rfl hl.1 rfl (Nat.le_of_ble_eq_true rfl) ⟨Nat.zero_le _, Nat.zero_le _⟩ (dk_at dkX6_readLine 23 rfl) (fun H locs w => ?_)
      refine lv_aload_n C.1 C.2.1 (dk_at dkX6_readLine 24 rfl) rfl (lv_at hl 1 rfl) ?_
      obtain ⟨pos_15, frm_16, sort_17, value_18, fault_19, wrongAt_20, hq21, hf⟩ := bd6_at hf
      refine r_rwv (As := []) (rest := []) (wr := []) (ws' := wM g a_m st now isKept hearers draft dHearers dWalls toldWinds tape taped pos_15 frm_16 sort_17 value_18 fault_19 wrongAt_20 landed landedIn stepped isThere isAt isNext landSum heardSum allWays ways drawn lanes sizes cells torn before) C (kX6_takes l g _ a_m st now isKept hearers draft dHearers dWalls toldWinds tape taped pos frm sort value fault_12 wrongAt_13 landed landedIn stepped isThere isAt isNext landSum heardSum allWays ways drawn lanes sizes cells torn before pos_15 frm_16 sort_17 value_18 fault_19 wrongAt_20 hq21) (cwV0 C (inr12 _ (List.mem_of_getElem? (i := 22) rfl)) mwX6_takes hdX6_takes ⟨Nat.le_of_ble_eq_true rfl, Nat.le_of_ble_eq_true rfl⟩) hK w hA [0, 1, 2, 3, 4, 5, 6, 7, 8, 9, 10, 11, 12, 13, 14, 15, 16, 17] [] [0, 1, 2, 3, 4, 5, 6, 7, 8, 9, 10, 11, 12, 13, 14, 15, 16, 17] (by decide) rfl rfl (by decide) (by decide) rfl (by decide) rfl rfl rfl hl.1 rfl (Nat.le_of_ble_eq_true rfl) ⟨Nat.zero_le _, Nat.zero_le _⟩ (dk_at dkX6_readLine 25 rfl) (fun H locs w => ?_)
      refine lv_aload_n C.1 C.2.1 (dk_at dkX6_readLine 26 rfl) rfl (lv_at hl 1 rfl) ?_
      refine r_get (v := .int fault_19) C hK w.1 (fun w h => List.mem_cons_of_mem _ (inlX6 w h)) 0 rfl rfl 14 (by decide) (List.mem_cons_of_mem _ (inr12 _ (List.mem_of_getElem? (i := 18) rfl))) rfl (dk_at dkX6_readLine 27 rfl) ?_
      refine lv_if_le (tgt := 56) C.1 C.2.1 (dk_at dkX6_readLine 28 rfl) (by decide) (fun c22 => ?_) (fun c22 => ?_)
      · have hf := (if_pos c22).symm.trans hf
        refine lv_aload_n C.1 C.2.1 (dk_at dkX6_readLine 30 rfl) rfl (lv_at hl 1 rfl) ?_
        refine lv_iload_n C.1 C.2.1 (dk_at dkX6_readLine 31 rfl) rfl (lv_at hl 0 rfl) ?_
        obtain ⟨draft_23, dHearers_24, dWalls_25, toldWinds_26, pos_27, frm_28, sort_29, value_30, fault_31, wrongAt_32, hq33, hf⟩ := bd10_at hf
        refine r_rwv (As := [.int y1]) (rest := []) (wr := []) (ws' := wM g a_m st now isKept hearers draft_23 dHearers_24 dWalls_25 toldWinds_26 tape taped pos_27 frm_28 sort_29 value_30 fault_31 wrongAt_32 landed landedIn stepped isThere isAt isNext landSum heardSum allWays ways drawn lanes sizes cells torn before) C (kX6_readLineOf l g _ a_m st now isKept hearers draft dHearers dWalls toldWinds tape taped pos_15 frm_16 sort_17 value_18 fault_19 wrongAt_20 landed landedIn stepped isThere isAt isNext landSum heardSum allWays ways drawn lanes sizes cells torn before y1 draft_23 dHearers_24 dWalls_25 toldWinds_26 pos_27 frm_28 sort_29 value_30 fault_31 wrongAt_32 hq33) (cwV0 C (inr14 _ (List.mem_of_getElem? (i := 16) rfl)) mwX6_readLineOf hdX6_readLineOf ⟨Nat.le_of_ble_eq_true rfl, Nat.le_of_ble_eq_true rfl⟩) hK w hA [0, 1, 2, 3, 4, 5, 6, 7, 8, 9, 10, 11, 12, 13, 14, 15, 16, 17] [] [0, 1, 2, 3, 4, 5, 6, 7, 8, 9, 10, 11, 12, 13, 14, 15, 16, 17] (by decide) rfl rfl (by decide) (by decide) rfl (by decide) rfl rfl rfl hl.1 rfl (Nat.le_of_ble_eq_true rfl) ⟨Nat.zero_le _, Nat.zero_le _⟩ (dk_at dkX6_readLine 32 rfl) (fun H locs w => ?_)
        refine lv_aload_n C.1 C.2.1 (dk_at dkX6_readLine 33 rfl) rfl (lv_at hl 1 rfl) ?_
        refine r_get (v := .int fault_31) C hK w.1 (fun w h => List.mem_cons_of_mem _ (inlX6 w h)) 0 rfl rfl 14 (by decide) (List.mem_cons_of_mem _ (inr12 _ (List.mem_of_getElem? (i := 18) rfl))) rfl (dk_at dkX6_readLine 34 rfl) ?_
        obtain ⟨fault_34, wrongAt_35, hq36, hf⟩ := bd2_at hf
        have J37 : ∀ (H : Heap) (locs : List Loc) (ls : Array Slot), Wd g A Z.heap (wM g a_m st now isKept hearers draft_23 dHearers_24 dWalls_25 toldWinds_26 tape taped pos_27 frm_28 sort_29 value_30 fault_34 wrongAt_35 landed landedIn stepped isThere isAt isNext landSum heardSum allWays ways drawn lanes sizes cells torn before) H locs → lv_has ls 2 [(0, .ref (a_m 0))] → W P l E rmX6_readLine Z Mi AR BE ME CO H locs 0 0 Q (F0 Mi 86 ls []) := by
          intro H locs ls w hl
          refine lv_aload_n C.1 C.2.1 (dk_at dkX6_readLine 46 rfl) rfl (lv_at hl 0 rfl) ?_
          obtain ⟨pos_38, frm_39, sort_40, value_41, fault_42, wrongAt_43, hq44, hf⟩ := bd6_at hf
          refine r_rwv (As := []) (rest := []) (wr := []) (ws' := wM g a_m st now isKept hearers draft_23 dHearers_24 dWalls_25 toldWinds_26 tape taped pos_38 frm_39 sort_40 value_41 fault_42 wrongAt_43 landed landedIn stepped isThere isAt isNext landSum heardSum allWays ways drawn lanes sizes cells torn before) C (kX6_takes l g _ a_m st now isKept hearers draft_23 dHearers_24 dWalls_25 toldWinds_26 tape taped pos_27 frm_28 sort_29 value_30 fault_34 wrongAt_35 landed landedIn stepped isThere isAt isNext landSum heardSum allWays ways drawn lanes sizes cells torn before pos_38 frm_39 sort_40 value_41 fault_42 wrongAt_43 hq44) (cwV0 C (inr12 _ (List.mem_of_getElem? (i := 22) rfl)) mwX6_takes hdX6_takes ⟨Nat.le_of_ble_eq_true rfl, Nat.le_of_ble_eq_true rfl⟩) hK w hA [0, 1, 2, 3, 4, 5, 6, 7, 8, 9, 10, 11, 12, 13, 14, 15, 16, 17] [] [0, 1, 2, 3, 4, 5, 6, 7, 8, 9, 10, 11, 12, 13, 14, 15, 16, 17] (by decide) rfl rfl (by decide) (by decide) rfl (by decide) rfl rfl rfl hl.1 rfl (Nat.le_of_ble_eq_true rfl) ⟨Nat.zero_le _, Nat.zero_le _⟩ (dk_at dkX6_readLine 47 rfl) (fun H locs w => ?_)
          cases hf
          exact fin _ _ _ _ (dk_at dkX6_readLine 48 rfl) w
        clear hf
        have hf := hq36
        refine lv_if_ne (tgt := 86) C.1 C.2.1 (dk_at dkX6_readLine 35 rfl) (by decide) (fun c45 => ?_) (fun c45 => ?_)
        · have hf := (if_neg c45).symm.trans hf
          cases hf
          exact J37 _ _ _ w (lv_sub hl [1] rfl)
        · have hf := (if_pos c45).symm.trans hf
          refine lv_aload_n C.1 C.2.1 (dk_at dkX6_readLine 36 rfl) rfl (lv_at hl 1 rfl) ?_
          refine lv_aload_n C.1 C.2.1 (dk_at dkX6_readLine 37 rfl) rfl (lv_at hl 1 rfl) ?_
          refine r_get (v := .int sort_29) C hK w.1 (fun w h => List.mem_cons_of_mem _ (inlX6 w h)) 0 rfl rfl 12 (by decide) (List.mem_cons_of_mem _ (inr12 _ (List.mem_of_getElem? (i := 20) rfl))) rfl (dk_at dkX6_readLine 38 rfl) ?_
          refine lv_iconst (v := 3) C.1 C.2.1 (dk_at dkX6_readLine 39 rfl) (by decide) ?_
          obtain ⟨y46, hq47, hf⟩ := bd1_at hf
          have J48 : ∀ (H : Heap) (locs : List Loc) (ls : Array Slot), Wd g A Z.heap (wM g a_m st now isKept hearers draft_23 dHearers_24 dWalls_25 toldWinds_26 tape taped pos_27 frm_28 sort_29 value_30 fault_31 wrongAt_32 landed landedIn stepped isThere isAt isNext landSum heardSum allWays ways drawn lanes sizes cells torn before) H locs → lv_has ls 2 [(0, .ref (a_m 0))] → W P l E rmX6_readLine Z Mi AR BE ME CO H locs 0 0 Q (F0 Mi 82 ls [.int y46, .ref (a_m 0)]) := by
            intro H locs ls w hl
            refine lv_iconst (v := 2) C.1 C.2.1 (dk_at dkX6_readLine 44 rfl) (by decide) ?_
            obtain ⟨fault_49, wrongAt_50, hq51, hf⟩ := bd2_at hf
            refine r_rwv (As := [.int y46, .int 2]) (rest := []) (wr := []) (ws' := wM g a_m st now isKept hearers draft_23 dHearers_24 dWalls_25 toldWinds_26 tape taped pos_27 frm_28 sort_29 value_30 fault_49 wrongAt_50 landed landedIn stepped isThere isAt isNext landSum heardSum allWays ways drawn lanes sizes cells torn before) C (kX6_needs l g _ a_m st now isKept hearers draft_23 dHearers_24 dWalls_25 toldWinds_26 tape taped pos_27 frm_28 sort_29 value_30 fault_31 wrongAt_32 landed landedIn stepped isThere isAt isNext landSum heardSum allWays ways drawn lanes sizes cells torn before y46 2 fault_49 wrongAt_50 hq51) (cwV0 C (inr13 _ (List.mem_of_getElem? (i := 12) rfl)) mwX6_needs hdX6_needs ⟨Nat.le_of_ble_eq_true rfl, Nat.le_of_ble_eq_true rfl⟩) hK w hA [0, 1, 2, 3, 4, 5, 6, 7, 8, 9, 10, 11, 12, 13, 14, 15, 16, 17] [] [0, 1, 2, 3, 4, 5, 6, 7, 8, 9, 10, 11, 12, 13, 14, 15, 16, 17] (by decide) rfl rfl (by decide) (by decide) rfl (by decide) rfl rfl rfl hl.1 rfl (Nat.le_of_ble_eq_true rfl) ⟨Nat.zero_le _, Nat.zero_le _⟩ (dk_at dkX6_readLine 45 rfl) (fun H locs w => ?_)
            cases hf
            exact J37 _ _ _ w (lv_sub hl [0] rfl)
          clear hf
          have hf := hq47
          refine lv_icmp_ne (tgt := 81) C.1 C.2.1 (dk_at dkX6_readLine 40 rfl) (by decide) (fun c52 => ?_) (fun c52 => ?_)
          · have hf := (if_neg c52).symm.trans hf
            refine lv_iconst (v := 0) C.1 C.2.1 (dk_at dkX6_readLine 43 rfl) (by decide) ?_
            cases hf
            exact J48 _ _ _ w (lv_sub hl [1] rfl)
          · have hf := (if_pos c52).symm.trans hf
            refine lv_iconst (v := 1) C.1 C.2.1 (dk_at dkX6_readLine 41 rfl) (by decide) ?_
            refine lv_goto (tgt := 82) C.1 C.2.1 (dk_at dkX6_readLine 42 rfl) (by decide) ?_
            cases hf
            exact J48 _ _ _ w (lv_sub hl [1] rfl)
      · have hf := (if_neg c22).symm.trans hf
        cases hf
        exact fin _ _ _ _ (dk_at dkX6_readLine 29 rfl) w
    clear hf
    have hf := hq5
    refine lv_icmp_eq (tgt := 29) C.1 C.2.1 (dk_at dkX6_readLine 12 rfl) (by decide) (fun c53 => ?_) (fun c53 => ?_)
    · have hf := (if_pos c53).symm.trans hf
      refine lv_iconst (v := 0) C.1 C.2.1 (dk_at dkX6_readLine 15 rfl) (by decide) ?_
      cases hf
      exact J6 _ _ _ w (lv_sub hl [0, 1] rfl)
    · have hf := (if_neg c53).symm.trans hf
      refine lv_iconst (v := 1) C.1 C.2.1 (dk_at dkX6_readLine 13 rfl) (by decide) ?_
      refine lv_goto (tgt := 30) C.1 C.2.1 (dk_at dkX6_readLine 14 rfl) (by decide) ?_
      cases hf
      exact J6 _ _ _ w (lv_sub hl [0, 1] rfl)
  clear hf
  have hf := hq2
  refine lv_icmp_ne (tgt := 15) C.1 C.2.1 (dk_at dkX6_readLine 3 rfl) (by decide) (fun c54 => ?_) (fun c54 => ?_)
  · have hf := (if_neg c54).symm.trans hf
    refine lv_bipush (v := (-4)) C.1 C.2.1 (dk_at dkX6_readLine 7 rfl) (by decide) ?_
    cases hf
    exact J3 _ _ _ w (lv_sub hl [0] rfl)
  · have hf := (if_pos c54).symm.trans hf
    refine lv_aload_n C.1 C.2.1 (dk_at dkX6_readLine 4 rfl) rfl (lv_at hl 0 rfl) ?_
    obtain ⟨r55, hq56, hf⟩ := bd1_at hf
    refine r_roV (As := []) (rest := []) C (kX6_lineNow l g a_m st now isKept hearers draft dHearers dWalls toldWinds tape taped pos frm sort value fault wrongAt landed landedIn stepped isThere isAt isNext landSum heardSum allWays ways drawn lanes sizes cells torn before r55 hq56) (cwV0 C (inr13 _ (List.mem_of_getElem? (i := 20) rfl)) mwX6_lineNow hdX6_lineNow ⟨Nat.le_of_ble_eq_true rfl, Nat.le_of_ble_eq_true rfl⟩) hK w.1 rfl rfl rfl hl.1 rfl (Nat.le_of_ble_eq_true rfl) ⟨Nat.zero_le _, Nat.zero_le _⟩ (dk_at dkX6_readLine 5 rfl) ?_
    refine lv_goto (tgt := 17) C.1 C.2.1 (dk_at dkX6_readLine 6 rfl) (by decide) ?_
    cases hf
    exact J3 _ _ _ w (lv_sub hl [0] rfl)
-- X6.text
abbrev tbX6_text : List (Nat × Instr × Nat) := [(0, .iconst 0, 1), (1, .istore_n 1, 1), (2, .aload_n 0, 1), (3, .iconst 0, 1), (4, .putfield 90, 3), (7, .aload_n 0, 1), (8, .iconst 0, 1), (9, .putfield 99, 3), (12, .aload_n 0, 1), (13, .invokevirtual 62, 3), (16, .aload_n 0, 1), (17, .invokevirtual 144, 3), (20, .aload_n 0, 1), (21, .getfield 90, 3), (24, .ifCond .ne 20, 3), (27, .aload_n 0, 1), (28, .getfield 118, 3), (31, .ifCond .eq 13, 3), (34, .aload_n 0, 1), (35, .invokevirtual 175, 3), (38, .iinc 1 1, 3), (41, .goto (-21), 3), (44, .aload_n 0, 1), (45, .iconst 0, 1), (46, .putfield 87, 3), (49, .aload_n 0, 1), (50, .getfield 90, 3), (53, .ifCond .le 11, 3), (56, .bipush (-10), 2), (58, .aload_n 0, 1), (59, .getfield 96, 3), (62, .isub, 1), (63, .ireturn, 1), (64, .aload_n 0, 1), (65, .invokevirtual 65, 3), (68, .iload_n 1, 1), (69, .ireturn, 1)]
theorem dkX6_text : dk cX6_text tbX6_text := dk_of (by decide +kernel)
abbrev cdX6_text : Cond := Cond.code yX6_text cX6_text 2 (some .int)
abbrev rmX6_text : Room := { frames := 7, cells := 0, slots := 0, locals := 153 }
theorem mwX6_text : Cond.instanceMethod yX6_text ∈ wsL_law ∧ Cond.selects RX6 yX6_text yX6_text ∈ wsL_law ∧ Cond.initialized RX6 ∈ wsL_law ∧ cdX6_text ∈ wsL_law := ⟨inr12 _ (List.mem_of_getElem? (i := 15) rfl), inr12 _ (List.mem_of_getElem? (i := 16) rfl), inr1 _ (List.mem_of_getElem? (i := 5) rfl), inr12 _ (List.mem_of_getElem? (i := 17) rfl)⟩
theorem hdX6_text : yX6_text.cls = RX6 ∧ yX6_text.cls ≠ "java/lang/invoke/MethodHandle" ∧ yX6_text.cls ≠ "java/lang/invoke/VarHandle" ∧ (parseMethodDescriptor yX6_text.desc).map (fun d => d.parameters.length) = some 0 := by decide +kernel
set_option maxHeartbeats 4000000 in
set_option maxRecDepth 100000 in
theorem kX6_text (l : Launch) (g : Gx) (sz : Nat) (a_m : Nat → Nat) (st : AI) (now : AI) (isKept : AI) (hearers : Int32) (draft : AI) (dHearers : Int32) (dWalls : Int32) (toldWinds : Int32) (tape : AI) (taped : Int32) (pos : Int32) (frm : Int32) (sort : Int32) (value : Int32) (fault : Int32) (wrongAt : Int32) (landed : AI) (landedIn : AI) (stepped : AI) (isThere : AI) (isAt : AI) (isNext : AI) (landSum : Int64) (heardSum : Int64) (allWays : Int64) (ways : AI) (drawn : AI) (lanes : AI) (sizes : AI) (cells : AI) (torn : Int32) (before : AI) (res : Int32) (st_o : AI) (isKept_o : AI) (hearers_o : Int32) (draft_o : AI) (dHearers_o : Int32) (dWalls_o : Int32) (toldWinds_o : Int32) (taped_o : Int32) (pos_o : Int32) (frm_o : Int32) (sort_o : Int32) (value_o : Int32) (fault_o : Int32) (wrongAt_o : Int32) (hf : fX6_text st isKept hearers draft dHearers dWalls toldWinds tape taped pos frm sort value fault wrongAt = some (res, st_o, isKept_o, hearers_o, draft_o, dHearers_o, dWalls_o, toldWinds_o, taped_o, pos_o, frm_o, sort_o, value_o, fault_o, wrongAt_o)) : Met l yX6_text (cdX6_text :: wsL_law) rmX6_text (va_Pc [.ref (a_m 0)] (RWp g sz (wM g a_m st now isKept hearers draft dHearers dWalls toldWinds tape taped pos frm sort value fault wrongAt landed landedIn stepped isThere isAt isNext landSum heardSum allWays ways drawn lanes sizes cells torn before))) (va_Qi (fun x (_ : Unit) => x = res) (fun _ => RWq g (va_A (wM g a_m st now isKept hearers draft dHearers dWalls toldWinds tape taped pos frm sort value fault wrongAt landed landedIn stepped isThere isAt isNext landSum heardSum allWays ways drawn lanes sizes cells torn before) sz) (wM g a_m st_o now isKept_o hearers_o draft_o dHearers_o dWalls_o toldWinds_o tape taped_o pos_o frm_o sort_o value_o fault_o wrongAt_o landed landedIn stepped isThere isAt isNext landSum heardSum allWays ways drawn lanes sizes cells torn before)) (va_A (wM g a_m st now isKept hearers draft dHearers dWalls toldWinds tape taped pos frm sort value fault wrongAt landed landedIn stepped isThere isAt isNext landSum heardSum allWays ways drawn lanes sizes cells torn before) sz)) 0 0 (va_A (wM g a_m st now isKept hearers draft dHearers dWalls toldWinds tape taped pos frm sort value fault wrongAt landed landedIn stepped isThere isAt isNext landSum heardSum allWays ways drawn lanes sizes cells torn before) sz) := by
  refine Met_rwi (cc := cX6_text) (maxL := 2) (by decide) rfl (Nat.le_of_ble_eq_true rfl) ?_
  intro P E Z Mi AR BE ME CO A Q C hK hA fin w ls hl
  have hl : lv_has ls 2 [(0, .ref (a_m 0))] := hl
  unfold fX6_text at hf
  refine lv_iconst (v := 0) C.1 C.2.1 (dk_at dkX6_text 0 rfl) (by decide) ?_
  refine lv_istore_n (lv' := [(1, .int 0), (0, .ref (a_m 0))]) C.1 C.2.1 (dk_at dkX6_text 1 rfl) rfl hl (by decide) rfl (fun ls hl => ?_)
  refine lv_aload_n C.1 C.2.1 (dk_at dkX6_text 2 rfl) rfl (lv_at hl 1 rfl) ?_
  refine lv_iconst (v := 0) C.1 C.2.1 (dk_at dkX6_text 3 rfl) (by decide) ?_
  refine r_put (v := .int 0) C hK w (fun w h => List.mem_cons_of_mem _ (inlX6 w h)) tyX6 tyX6_ok nmX6 0 rfl rfl 14 (by decide) (List.mem_cons_of_mem _ (inr12 _ (List.mem_of_getElem? (i := 18) rfl))) rfl rfl rfl (Nat.le_of_ble_eq_true rfl) (dk_at dkX6_text 4 rfl) (fun H locs w => ?_)
  have w : Wd g A Z.heap (wM g a_m st now isKept hearers draft dHearers dWalls toldWinds tape taped pos frm sort value 0 wrongAt landed landedIn stepped isThere isAt isNext landSum heardSum allWays ways drawn lanes sizes cells torn before) H locs := w
  refine lv_aload_n C.1 C.2.1 (dk_at dkX6_text 5 rfl) rfl (lv_at hl 1 rfl) ?_
  refine lv_iconst (v := 0) C.1 C.2.1 (dk_at dkX6_text 6 rfl) (by decide) ?_
  refine r_put (v := .int 0) C hK w (fun w h => List.mem_cons_of_mem _ (inlX6 w h)) tyX6 tyX6_ok nmX6 0 rfl rfl 10 (by decide) (List.mem_cons_of_mem _ (inr12 _ (List.mem_of_getElem? (i := 19) rfl))) rfl rfl rfl (Nat.le_of_ble_eq_true rfl) (dk_at dkX6_text 7 rfl) (fun H locs w => ?_)
  have w : Wd g A Z.heap (wM g a_m st now isKept hearers draft dHearers dWalls toldWinds tape taped 0 frm sort value 0 wrongAt landed landedIn stepped isThere isAt isNext landSum heardSum allWays ways drawn lanes sizes cells torn before) H locs := w
  refine lv_aload_n C.1 C.2.1 (dk_at dkX6_text 8 rfl) rfl (lv_at hl 1 rfl) ?_
  obtain ⟨draft_1, dHearers_2, dWalls_3, toldWinds_4, hq5, hf⟩ := bd4_at hf
  refine r_rwv (As := []) (rest := []) (wr := []) (ws' := wM g a_m st now isKept hearers draft_1 dHearers_2 dWalls_3 toldWinds_4 tape taped 0 frm sort value 0 wrongAt landed landedIn stepped isThere isAt isNext landSum heardSum allWays ways drawn lanes sizes cells torn before) C (kX6_firstDraft l g _ a_m st now isKept hearers draft dHearers dWalls toldWinds tape taped 0 frm sort value 0 wrongAt landed landedIn stepped isThere isAt isNext landSum heardSum allWays ways drawn lanes sizes cells torn before draft_1 dHearers_2 dWalls_3 toldWinds_4 hq5) (cwV0 C (inr4 _ (List.mem_of_getElem? (i := 21) rfl)) mwX6_firstDraft hdX6_firstDraft ⟨Nat.le_of_ble_eq_true rfl, Nat.le_of_ble_eq_true rfl⟩) hK w hA [0, 1, 2, 3, 4, 5, 6, 7, 8, 9, 10, 11, 12, 13, 14, 15, 16, 17] [] [0, 1, 2, 3, 4, 5, 6, 7, 8, 9, 10, 11, 12, 13, 14, 15, 16, 17] (by decide) rfl rfl (by decide) (by decide) rfl (by decide) rfl rfl rfl hl.1 rfl (Nat.le_of_ble_eq_true rfl) ⟨Nat.zero_le _, Nat.zero_le _⟩ (dk_at dkX6_text 9 rfl) (fun H locs w => ?_)
  refine lv_aload_n C.1 C.2.1 (dk_at dkX6_text 10 rfl) rfl (lv_at hl 1 rfl) ?_
  obtain ⟨pos_6, frm_7, sort_8, value_9, fault_10, wrongAt_11, hq12, hf⟩ := bd6_at hf
  refine r_rwv (As := []) (rest := []) (wr := []) (ws' := wM g a_m st now isKept hearers draft_1 dHearers_2 dWalls_3 toldWinds_4 tape taped pos_6 frm_7 sort_8 value_9 fault_10 wrongAt_11 landed landedIn stepped isThere isAt isNext landSum heardSum allWays ways drawn lanes sizes cells torn before) C (kX6_takes l g _ a_m st now isKept hearers draft_1 dHearers_2 dWalls_3 toldWinds_4 tape taped 0 frm sort value 0 wrongAt landed landedIn stepped isThere isAt isNext landSum heardSum allWays ways drawn lanes sizes cells torn before pos_6 frm_7 sort_8 value_9 fault_10 wrongAt_11 hq12) (cwV0 C (inr12 _ (List.mem_of_getElem? (i := 22) rfl)) mwX6_takes hdX6_takes ⟨Nat.le_of_ble_eq_true rfl, Nat.le_of_ble_eq_true rfl⟩) hK w hA [0, 1, 2, 3, 4, 5, 6, 7, 8, 9, 10, 11, 12, 13, 14, 15, 16, 17] [] [0, 1, 2, 3, 4, 5, 6, 7, 8, 9, 10, 11, 12, 13, 14, 15, 16, 17] (by decide) rfl rfl (by decide) (by decide) rfl (by decide) rfl rfl rfl hl.1 rfl (Nat.le_of_ble_eq_true rfl) ⟨Nat.zero_le _, Nat.zero_le _⟩ (dk_at dkX6_text 11 rfl) (fun H locs w => ?_)
  have L24 : ∀ (K : Int32 → AI → Int32 → Int32 → Int32 → Int32 → Int32 → Int32 → Int32 → Int32 → Int32 → Option (Int32 × AI × AI × Int32 × AI × Int32 × Int32 × Int32 × Int32 × Int32 × Int32 × Int32 × Int32 × Int32 × Int32)), (∀ (v13 : Int32) (draft_14 : AI) (dHearers_15 : Int32) (dWalls_16 : Int32) (toldWinds_17 : Int32) (pos_18 : Int32) (frm_19 : Int32) (sort_20 : Int32) (value_21 : Int32) (fault_22 : Int32) (wrongAt_23 : Int32) (H : Heap) (locs : List Loc) (ls : Array Slot), Wd g A Z.heap (wM g a_m st now isKept hearers draft_14 dHearers_15 dWalls_16 toldWinds_17 tape taped pos_18 frm_19 sort_20 value_21 fault_22 wrongAt_23 landed landedIn stepped isThere isAt isNext landSum heardSum allWays ways drawn lanes sizes cells torn before) H locs → lv_has ls 2 [(1, .int v13), (0, .ref (a_m 0))] → K v13 draft_14 dHearers_15 dWalls_16 toldWinds_17 pos_18 frm_19 sort_20 value_21 fault_22 wrongAt_23 = some (res, st_o, isKept_o, hearers_o, draft_o, dHearers_o, dWalls_o, toldWinds_o, taped_o, pos_o, frm_o, sort_o, value_o, fault_o, wrongAt_o) → W P l E rmX6_text Z Mi AR BE ME CO H locs 0 0 Q (F0 Mi 44 ls [])) → ∀ (n : Nat), ∀ (v13 : Int32) (draft_14 : AI) (dHearers_15 : Int32) (dWalls_16 : Int32) (toldWinds_17 : Int32) (pos_18 : Int32) (frm_19 : Int32) (sort_20 : Int32) (value_21 : Int32) (fault_22 : Int32) (wrongAt_23 : Int32) (H : Heap) (locs : List Loc) (ls : Array Slot), Wd g A Z.heap (wM g a_m st now isKept hearers draft_14 dHearers_15 dWalls_16 toldWinds_17 tape taped pos_18 frm_19 sort_20 value_21 fault_22 wrongAt_23 landed landedIn stepped isThere isAt isNext landSum heardSum allWays ways drawn lanes sizes cells torn before) H locs → lv_has ls 2 [(1, .int v13), (0, .ref (a_m 0))] → fX6_text_L20 tape taped K n v13 draft_14 dHearers_15 dWalls_16 toldWinds_17 pos_18 frm_19 sort_20 value_21 fault_22 wrongAt_23 = some (res, st_o, isKept_o, hearers_o, draft_o, dHearers_o, dWalls_o, toldWinds_o, taped_o, pos_o, frm_o, sort_o, value_o, fault_o, wrongAt_o) → W P l E rmX6_text Z Mi AR BE ME CO H locs 0 0 Q (F0 Mi 20 ls []) := by
    intro K hKe n
    induction n with
    | zero => intro v13 draft_14 dHearers_15 dWalls_16 toldWinds_17 pos_18 frm_19 sort_20 value_21 fault_22 wrongAt_23 H locs ls w hl hf; cases hf
    | succ n ih =>
      intro v13 draft_14 dHearers_15 dWalls_16 toldWinds_17 pos_18 frm_19 sort_20 value_21 fault_22 wrongAt_23 H locs ls w hl hf
      rw [fX6_text_L20] at hf
      refine lv_aload_n C.1 C.2.1 (dk_at dkX6_text 12 rfl) rfl (lv_at hl 1 rfl) ?_
      refine r_get (v := .int fault_22) C hK w.1 (fun w h => List.mem_cons_of_mem _ (inlX6 w h)) 0 rfl rfl 14 (by decide) (List.mem_cons_of_mem _ (inr12 _ (List.mem_of_getElem? (i := 18) rfl))) rfl (dk_at dkX6_text 13 rfl) ?_
      refine lv_if_ne (tgt := 44) C.1 C.2.1 (dk_at dkX6_text 14 rfl) (by decide) (fun c25 => ?_) (fun c25 => ?_)
      · have hf := (if_neg c25).symm.trans hf
        exact hKe v13 draft_14 dHearers_15 dWalls_16 toldWinds_17 pos_18 frm_19 sort_20 value_21 fault_22 wrongAt_23 _ _ _ w (lv_sub hl [0, 1] rfl) hf
      · have hf := (if_pos c25).symm.trans hf
        refine lv_aload_n C.1 C.2.1 (dk_at dkX6_text 15 rfl) rfl (lv_at hl 1 rfl) ?_
        refine r_get (v := .int sort_20) C hK w.1 (fun w h => List.mem_cons_of_mem _ (inlX6 w h)) 0 rfl rfl 12 (by decide) (List.mem_cons_of_mem _ (inr12 _ (List.mem_of_getElem? (i := 20) rfl))) rfl (dk_at dkX6_text 16 rfl) ?_
        refine lv_if_eq (tgt := 44) C.1 C.2.1 (dk_at dkX6_text 17 rfl) (by decide) (fun c26 => ?_) (fun c26 => ?_)
        · have hf := (if_pos c26).symm.trans hf
          exact hKe v13 draft_14 dHearers_15 dWalls_16 toldWinds_17 pos_18 frm_19 sort_20 value_21 fault_22 wrongAt_23 _ _ _ w (lv_sub hl [0, 1] rfl) hf
        · have hf := (if_neg c26).symm.trans hf
          refine lv_aload_n C.1 C.2.1 (dk_at dkX6_text 18 rfl) rfl (lv_at hl 1 rfl) ?_
          obtain ⟨draft_27, dHearers_28, dWalls_29, toldWinds_30, pos_31, frm_32, sort_33, value_34, fault_35, wrongAt_36, hq37, hf⟩ := bd10_at hf
          refine r_rwv (As := []) (rest := []) (wr := []) (ws' := wM g a_m st now isKept hearers draft_27 dHearers_28 dWalls_29 toldWinds_30 tape taped pos_31 frm_32 sort_33 value_34 fault_35 wrongAt_36 landed landedIn stepped isThere isAt isNext landSum heardSum allWays ways drawn lanes sizes cells torn before) C (kX6_readLine l g _ a_m st now isKept hearers draft_14 dHearers_15 dWalls_16 toldWinds_17 tape taped pos_18 frm_19 sort_20 value_21 fault_22 wrongAt_23 landed landedIn stepped isThere isAt isNext landSum heardSum allWays ways drawn lanes sizes cells torn before draft_27 dHearers_28 dWalls_29 toldWinds_30 pos_31 frm_32 sort_33 value_34 fault_35 wrongAt_36 hq37) (cwV0 C (inr13 _ (List.mem_of_getElem? (i := 16) rfl)) mwX6_readLine hdX6_readLine ⟨Nat.le_of_ble_eq_true rfl, Nat.le_of_ble_eq_true rfl⟩) hK w hA [0, 1, 2, 3, 4, 5, 6, 7, 8, 9, 10, 11, 12, 13, 14, 15, 16, 17] [] [0, 1, 2, 3, 4, 5, 6, 7, 8, 9, 10, 11, 12, 13, 14, 15, 16, 17] (by decide) rfl rfl (by decide) (by decide) rfl (by decide) rfl rfl rfl hl.1 rfl (Nat.le_of_ble_eq_true rfl) ⟨Nat.zero_le _, Nat.zero_le _⟩ (dk_at dkX6_text 19 rfl) (fun H locs w => ?_)
          obtain ⟨x38, ex38⟩ : ∃ z : Int32, z = v13 + 1 := ⟨_, rfl⟩
          have hf := nm_at ex38 hf
          refine lv_iinc (v := x38) (lv' := [(1, .int x38), (0, .ref (a_m 0))]) C.1 C.2.1 (dk_at dkX6_text 20 rfl) hl (k := 0) rfl (by rw [ex38]; rfl) (by decide) rfl (fun ls hl => ?_)
          refine lv_goto (tgt := 20) C.1 C.2.1 (dk_at dkX6_text 21 rfl) (by decide) ?_
          exact ih x38 draft_27 dHearers_28 dWalls_29 toldWinds_30 pos_31 frm_32 sort_33 value_34 fault_35 wrongAt_36 _ _ _ w (lv_sub hl [0, 1] rfl) hf
  refine L24 _ ?_ 4096 0 draft_1 dHearers_2 dWalls_3 toldWinds_4 pos_6 frm_7 sort_8 value_9 fault_10 wrongAt_11 _ _ _ w (lv_sub hl [0, 1] rfl) hf
  clear hf
  intro v13 draft_14 dHearers_15 dWalls_16 toldWinds_17 pos_18 frm_19 sort_20 value_21 fault_22 wrongAt_23 H locs ls w hl hf
  refine lv_aload_n C.1 C.2.1 (dk_at dkX6_text 22 rfl) rfl (lv_at hl 1 rfl) ?_
  refine lv_iconst (v := 0) C.1 C.2.1 (dk_at dkX6_text 23 rfl) (by decide) ?_
  refine r_put (v := .int 0) C hK w (fun w h => List.mem_cons_of_mem _ (inlX6 w h)) tyX6 tyX6_ok nmX6 0 rfl rfl 9 (by decide) (List.mem_cons_of_mem _ (inr5 _ (List.mem_of_getElem? (i := 20) rfl))) rfl rfl rfl (Nat.le_of_ble_eq_true rfl) (dk_at dkX6_text 24 rfl) (fun H locs w => ?_)
  have w : Wd g A Z.heap (wM g a_m st now isKept hearers draft_14 dHearers_15 dWalls_16 toldWinds_17 tape 0 pos_18 frm_19 sort_20 value_21 fault_22 wrongAt_23 landed landedIn stepped isThere isAt isNext landSum heardSum allWays ways drawn lanes sizes cells torn before) H locs := w
  refine lv_aload_n C.1 C.2.1 (dk_at dkX6_text 25 rfl) rfl (lv_at hl 1 rfl) ?_
  refine r_get (v := .int fault_22) C hK w.1 (fun w h => List.mem_cons_of_mem _ (inlX6 w h)) 0 rfl rfl 14 (by decide) (List.mem_cons_of_mem _ (inr12 _ (List.mem_of_getElem? (i := 18) rfl))) rfl (dk_at dkX6_text 26 rfl) ?_
  refine lv_if_le (tgt := 64) C.1 C.2.1 (dk_at dkX6_text 27 rfl) (by decide) (fun c39 => ?_) (fun c39 => ?_)
  · have hf := (if_pos c39).symm.trans hf
    refine lv_aload_n C.1 C.2.1 (dk_at dkX6_text 33 rfl) rfl (lv_at hl 1 rfl) ?_
    obtain ⟨st_40, isKept_41, hearers_42, hq43, hf⟩ := bd3_at hf
    refine r_rwv (As := []) (rest := []) (wr := []) (ws' := wM g a_m st_40 now isKept_41 hearers_42 draft_14 dHearers_15 dWalls_16 toldWinds_17 tape 0 pos_18 frm_19 sort_20 value_21 fault_22 wrongAt_23 landed landedIn stepped isThere isAt isNext landSum heardSum allWays ways drawn lanes sizes cells torn before) C (kX6_keepDraft l g _ a_m st now isKept hearers draft_14 dHearers_15 dWalls_16 toldWinds_17 tape 0 pos_18 frm_19 sort_20 value_21 fault_22 wrongAt_23 landed landedIn stepped isThere isAt isNext landSum heardSum allWays ways drawn lanes sizes cells torn before st_40 isKept_41 hearers_42 hq43) (cwV0 C (inr5 _ (List.mem_of_getElem? (i := 4) rfl)) mwX6_keepDraft hdX6_keepDraft ⟨Nat.le_of_ble_eq_true rfl, Nat.le_of_ble_eq_true rfl⟩) hK w hA [0, 1, 2, 3, 4, 5, 6, 7, 8, 9, 10, 11, 12, 13, 14, 15, 16, 17] [] [0, 1, 2, 3, 4, 5, 6, 7, 8, 9, 10, 11, 12, 13, 14, 15, 16, 17] (by decide) rfl rfl (by decide) (by decide) rfl (by decide) rfl rfl rfl hl.1 rfl (Nat.le_of_ble_eq_true rfl) ⟨Nat.zero_le _, Nat.zero_le _⟩ (dk_at dkX6_text 34 rfl) (fun H locs w => ?_)
    refine lv_iload_n C.1 C.2.1 (dk_at dkX6_text 35 rfl) rfl (lv_at hl 0 rfl) ?_
    cases hf
    exact fin _ _ _ _ _ (dk_at dkX6_text 36 rfl) rfl w
  · have hf := (if_neg c39).symm.trans hf
    refine lv_bipush (v := (-10)) C.1 C.2.1 (dk_at dkX6_text 28 rfl) (by decide) ?_
    refine lv_aload_n C.1 C.2.1 (dk_at dkX6_text 29 rfl) rfl (lv_at hl 1 rfl) ?_
    refine r_get (v := .int wrongAt_23) C hK w.1 (fun w h => List.mem_cons_of_mem _ (inlX6 w h)) 0 rfl rfl 15 (by decide) (List.mem_cons_of_mem _ (inr12 _ (List.mem_of_getElem? (i := 21) rfl))) rfl (dk_at dkX6_text 30 rfl) ?_
    refine lv_isub C.1 C.2.1 (dk_at dkX6_text 31 rfl) ?_
    refine lv_topi (fun x44 ex44 => ?_)
    have hf := nm_at ex44 hf
    cases hf
    exact fin _ _ _ _ _ (dk_at dkX6_text 32 rfl) rfl w
-- X6.fault
abbrev tbX6_fault : List (Nat × Instr × Nat) := [(0, .aload_n 0, 1), (1, .getfield 90, 3), (4, .ireturn, 1)]
theorem dkX6_fault : dk cX6_fault tbX6_fault := dk_of (by decide +kernel)
abbrev cdX6_fault : Cond := Cond.code yX6_fault cX6_fault 1 (some .int)
abbrev rmX6_fault : Room := { frames := 0, cells := 0, slots := 0, locals := 0 }
theorem mwX6_fault : Cond.instanceMethod yX6_fault ∈ wsL_law ∧ Cond.selects RX6 yX6_fault yX6_fault ∈ wsL_law ∧ Cond.initialized RX6 ∈ wsL_law ∧ cdX6_fault ∈ wsL_law := ⟨inr16 _ (List.mem_of_getElem? (i := 8) rfl), inr16 _ (List.mem_of_getElem? (i := 9) rfl), inr1 _ (List.mem_of_getElem? (i := 5) rfl), inr16 _ (List.mem_of_getElem? (i := 10) rfl)⟩
theorem hdX6_fault : yX6_fault.cls = RX6 ∧ yX6_fault.cls ≠ "java/lang/invoke/MethodHandle" ∧ yX6_fault.cls ≠ "java/lang/invoke/VarHandle" ∧ (parseMethodDescriptor yX6_fault.desc).map (fun d => d.parameters.length) = some 0 := by decide +kernel
set_option maxHeartbeats 4000000 in
set_option maxRecDepth 100000 in
theorem kX6_fault (l : Launch) (g : Gx) (a_m : Nat → Nat) (st : AI) (now : AI) (isKept : AI) (hearers : Int32) (draft : AI) (dHearers : Int32) (dWalls : Int32) (toldWinds : Int32) (tape : AI) (taped : Int32) (pos : Int32) (frm : Int32) (sort : Int32) (value : Int32) (fault : Int32) (wrongAt : Int32) (landed : AI) (landedIn : AI) (stepped : AI) (isThere : AI) (isAt : AI) (isNext : AI) (landSum : Int64) (heardSum : Int64) (allWays : Int64) (ways : AI) (drawn : AI) (lanes : AI) (sizes : AI) (cells : AI) (torn : Int32) (before : AI) (res : Int32) (hf : fX6_fault fault = some res) : Met l yX6_fault (cdX6_fault :: wsL_law) rmX6_fault (va_Pc [.ref (a_m 0)] (RO g (wM g a_m st now isKept hearers draft dHearers dWalls toldWinds tape taped pos frm sort value fault wrongAt landed landedIn stepped isThere isAt isNext landSum heardSum allWays ways drawn lanes sizes cells torn before))) (vp_Si (fun x => x = res)) 0 0 (fun _ => False) := by
  refine Met_roi (cc := cX6_fault) (maxL := 1) (by decide) rfl (Nat.le_of_ble_eq_true rfl) ?_
  intro P E Z Mi AR BE ME CO Q C fin hK hP ls hl
  have hl : lv_has ls 1 [(0, .ref (a_m 0))] := hl
  unfold fX6_fault at hf
  refine lv_aload_n C.1 C.2.1 (dk_at dkX6_fault 0 rfl) rfl (lv_at hl 0 rfl) ?_
  refine r_get (v := .int fault) C hK hP (fun w h => List.mem_cons_of_mem _ (inlX6 w h)) 0 rfl rfl 14 (by decide) (List.mem_cons_of_mem _ (inr12 _ (List.mem_of_getElem? (i := 18) rfl))) rfl (dk_at dkX6_fault 1 rfl) ?_
  cases hf
  exact fin _ _ _ (dk_at dkX6_fault 2 rfl) rfl
