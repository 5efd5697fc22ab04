-- X6.common
abbrev tbX6_common : List (Nat × Instr × Nat) := [(0, .lload_n 0, 1), (1, .lstore 4, 2), (3, .lload_n 2, 1), (4, .lstore 6, 2), (6, .lload 6, 2), (8, .lconst 0, 1), (9, .lcmp, 1), (10, .ifCond .eq 21, 3), (13, .lload 4, 2), (15, .lload 6, 2), (17, .lrem, 1), (18, .lstore 8, 2), (20, .lload 6, 2), (22, .lstore 4, 2), (24, .lload 8, 2), (26, .lstore 6, 2), (28, .goto (-22), 3), (31, .lload 4, 2), (33, .lreturn, 1)]
theorem dkX6_common : dk cX6_common tbX6_common := dk_of (by decide +kernel)
abbrev cdX6_common : Cond := Cond.code yX6_common cX6_common 10 (some .long)
abbrev rmX6_common : Room := { frames := 0, cells := 0, slots := 0, locals := 0 }
theorem mwX6_common : Cond.static yX6_common ∈ wsL_law ∧ Cond.initialized yX6_common.cls ∈ wsL_law ∧ cdX6_common ∈ wsL_law := ⟨inr34 _ (List.mem_of_getElem? (i := 16) rfl), inr1 _ (List.mem_of_getElem? (i := 5) rfl), inr34 _ (List.mem_of_getElem? (i := 17) rfl)⟩
theorem hdX6_common : yX6_common.cls ≠ "java/lang/invoke/MethodHandle" ∧ yX6_common.cls ≠ "java/lang/invoke/VarHandle" ∧ (parseMethodDescriptor yX6_common.desc).map (fun d => d.parameters.length) = some 2 := by decide +kernel
set_option maxHeartbeats 4000000 in
set_option maxRecDepth 100000 in
theorem kX6_common (l : Launch) (p1 : Int64) (p2 : Int64) (res : Int64) (hf : fX6_common p1 p2 = some res) : Met l yX6_common (cdX6_common :: wsL_law) rmX6_common (va_Pc [.long p1, .long p2] (fun _ => True)) (vp_Sl (fun x => x = res)) 0 0 (fun _ => False) := by
  refine Met_stl (cc := cX6_common) (maxL := 10) (by decide) rfl (Nat.le_of_ble_eq_true rfl) ?_
  intro P E Z Mi AR BE ME CO Q C fin ls hl
  have hl : lv_has ls 10 [(0, .long p1), (2, .long p2)] := hl
  unfold fX6_common at hf
  refine lv_lload_n C.1 C.2.1 (dk_at dkX6_common 0 rfl) rfl (lv_at hl 0 rfl) ?_
  refine lv_lstore (lv' := [(4, .long p1), (0, .long p1), (2, .long p2)]) C.1 C.2.1 (dk_at dkX6_common 1 rfl) hl (by decide) rfl (fun ls hl => ?_)
  refine lv_lload_n C.1 C.2.1 (dk_at dkX6_common 2 rfl) rfl (lv_at hl 2 rfl) ?_
  refine lv_lstore (lv' := [(6, .long p2), (4, .long p1), (0, .long p1), (2, .long p2)]) C.1 C.2.1 (dk_at dkX6_common 3 rfl) hl (by decide) rfl (fun ls hl => ?_)
  have L3 : ∀ (K : Int64 → Int64 → Option (Int64)), (∀ (v1 : Int64) (v2 : Int64) (ls : Array Slot), lv_has ls 10 [(4, .long v2)] → K v1 v2 = some res → W P l E rmX6_common Z Mi AR BE ME CO Z.heap [] 0 0 Q (F0 Mi 31 ls [])) → ∀ (n : Nat), ∀ (v1 : Int64) (v2 : Int64) (ls : Array Slot), lv_has ls 10 [(6, .long v1), (4, .long v2)] → fX6_common_L6 K n v1 v2 = some res → W P l E rmX6_common Z Mi AR BE ME CO Z.heap [] 0 0 Q (F0 Mi 6 ls []) := by
    intro K hKe n
    induction n with
    | zero => intro v1 v2 ls hl hf; cases hf
    | succ n ih =>
      intro v1 v2 ls hl hf
      rw [fX6_common_L6] at hf
      refine lv_lload C.1 C.2.1 (dk_at dkX6_common 4 rfl) (lv_at hl 0 rfl) ?_
      refine lv_lconst (v := 0) C.1 C.2.1 (dk_at dkX6_common 5 rfl) (by decide) ?_
      refine W.lcmp C.1 C.2.1 (dk_at dkX6_common 6 rfl) ?_
      refine lv_if_eq (tgt := 31) C.1 C.2.1 (dk_at dkX6_common 7 rfl) (by decide) (fun c4 => ?_) (fun c4 => ?_)
      · have hf := (if_pos c4).symm.trans hf
        exact hKe v1 v2 _ (lv_sub hl [1] rfl) hf
      · have hf := (if_neg c4).symm.trans hf
        refine lv_lload C.1 C.2.1 (dk_at dkX6_common 8 rfl) (lv_at hl 1 rfl) ?_
        refine lv_lload C.1 C.2.1 (dk_at dkX6_common 9 rfl) (lv_at hl 0 rfl) ?_
        obtain ⟨h5, hf⟩ := gzl_at hf
        refine lv_lrem C.1 C.2.1 (dk_at dkX6_common 10 rfl) h5 ?_
        refine lv_topl (fun x6 ex6 => ?_)
        have hf := nm_at ex6 hf
        refine lv_lstore (lv' := [(8, .long x6), (6, .long v1), (4, .long v2)]) C.1 C.2.1 (dk_at dkX6_common 11 rfl) hl (by decide) rfl (fun ls hl => ?_)
        refine lv_lload C.1 C.2.1 (dk_at dkX6_common 12 rfl) (lv_at hl 1 rfl) ?_
        refine lv_lstore (lv' := [(4, .long v1), (8, .long x6), (6, .long v1)]) C.1 C.2.1 (dk_at dkX6_common 13 rfl) hl (by decide) rfl (fun ls hl => ?_)
        refine lv_lload C.1 C.2.1 (dk_at dkX6_common 14 rfl) (lv_at hl 1 rfl) ?_
        refine lv_lstore (lv' := [(6, .long x6), (4, .long v1), (8, .long x6)]) C.1 C.2.1 (dk_at dkX6_common 15 rfl) hl (by decide) rfl (fun ls hl => ?_)
        refine lv_goto (tgt := 6) C.1 C.2.1 (dk_at dkX6_common 16 rfl) (by decide) ?_
        exact ih x6 v1 _ (lv_sub hl [0, 1] rfl) hf
  refine L3 _ ?_ 4096 p2 p1 _ (lv_sub hl [0, 1] rfl) hf
  clear hf
  intro v1 v2 ls hl hf
  refine lv_lload C.1 C.2.1 (dk_at dkX6_common 17 rfl) (lv_at hl 0 rfl) ?_
  cases hf
  exact fin _ _ _ (dk_at dkX6_common 18 rfl) rfl
-- X6.told
abbrev tbX6_told : List (Nat × Instr × Nat) := [(0, .lload_n 2, 1), (1, .lload_n 0, 1), (2, .invokestatic 271, 3), (5, .lstore 5, 2), (7, .iload 4, 2), (9, .ifCond .ne 10, 3), (12, .lload_n 0, 1), (13, .lload 5, 2), (15, .ldiv, 1), (16, .goto 7, 3), (19, .lload_n 2, 1), (20, .lload 5, 2), (22, .ldiv, 1), (23, .lreturn, 1)]
theorem dkX6_told : dk cX6_told tbX6_told := dk_of (by decide +kernel)
abbrev cdX6_told : Cond := Cond.code yX6_told cX6_told 7 (some .long)
abbrev rmX6_told : Room := { frames := 1, cells := 0, slots := 0, locals := 29 }
theorem mwX6_told : Cond.static yX6_told ∈ wsL_law ∧ Cond.initialized yX6_told.cls ∈ wsL_law ∧ cdX6_told ∈ wsL_law := ⟨inr34 _ (List.mem_of_getElem? (i := 13) rfl), inr1 _ (List.mem_of_getElem? (i := 5) rfl), inr34 _ (List.mem_of_getElem? (i := 14) rfl)⟩
theorem hdX6_told : yX6_told.cls ≠ "java/lang/invoke/MethodHandle" ∧ yX6_told.cls ≠ "java/lang/invoke/VarHandle" ∧ (parseMethodDescriptor yX6_told.desc).map (fun d => d.parameters.length) = some 3 := by decide +kernel
set_option maxHeartbeats 4000000 in
set_option maxRecDepth 100000 in
theorem kX6_told (l : Launch) (p1 : Int64) (p2 : Int64) (p3 : Int32) (res : Int64) (hf : fX6_told p1 p2 p3 = some res) : Met l yX6_told (cdX6_told :: wsL_law) rmX6_told (va_Pc [.long p1, .long p2, .int p3] (fun _ => True)) (vp_Sl (fun x => x = res)) 0 0 (fun _ => False) := by
  refine Met_stl (cc := cX6_told) (maxL := 7) (by decide) rfl (Nat.le_of_ble_eq_true rfl) ?_
  intro P E Z Mi AR BE ME CO Q C fin ls hl
  have hl : lv_has ls 7 [(0, .long p1), (2, .long p2), (4, .int p3)] := hl
  unfold fX6_told at hf
  refine lv_lload_n C.1 C.2.1 (dk_at dkX6_told 0 rfl) rfl (lv_at hl 1 rfl) ?_
  refine lv_lload_n C.1 C.2.1 (dk_at dkX6_told 1 rfl) rfl (lv_at hl 0 rfl) ?_
  obtain ⟨r1, hq2, hf⟩ := bd1_at hf
  refine r_stl (As := [.long p2, .long p1]) (rest := []) C (kX6_common l p2 p1 r1 hq2) (cwS0 C (inr34 _ (List.mem_of_getElem? (i := 15) rfl)) mwX6_common hdX6_common ⟨Nat.le_of_ble_eq_true rfl, Nat.le_of_ble_eq_true rfl⟩) rfl hl.1 rfl (Nat.le_of_ble_eq_true rfl) ⟨Nat.zero_le _, Nat.zero_le _⟩ (dk_at dkX6_told 2 rfl) ?_
  refine lv_lstore (lv' := [(5, .long r1), (0, .long p1), (2, .long p2), (4, .int p3)]) C.1 C.2.1 (dk_at dkX6_told 3 rfl) hl (by decide) rfl (fun ls hl => ?_)
  refine lv_iload C.1 C.2.1 (dk_at dkX6_told 4 rfl) (lv_at hl 3 rfl) ?_
  refine lv_if_ne (tgt := 19) C.1 C.2.1 (dk_at dkX6_told 5 rfl) (by decide) (fun c3 => ?_) (fun c3 => ?_)
  · have hf := (if_neg c3).symm.trans hf
    refine lv_lload_n C.1 C.2.1 (dk_at dkX6_told 10 rfl) rfl (lv_at hl 2 rfl) ?_
    refine lv_lload C.1 C.2.1 (dk_at dkX6_told 11 rfl) (lv_at hl 0 rfl) ?_
    obtain ⟨h4, hf⟩ := gzl_at hf
    refine lv_ldiv C.1 C.2.1 (dk_at dkX6_told 12 rfl) h4 ?_
    refine lv_topl (fun x5 ex5 => ?_)
    have hf := nm_at ex5 hf
    cases hf
    exact fin _ _ _ (dk_at dkX6_told 13 rfl) rfl
  · have hf := (if_pos c3).symm.trans hf
    refine lv_lload_n C.1 C.2.1 (dk_at dkX6_told 6 rfl) rfl (lv_at hl 1 rfl) ?_
    refine lv_lload C.1 C.2.1 (dk_at dkX6_told 7 rfl) (lv_at hl 0 rfl) ?_
    obtain ⟨h6, hf⟩ := gzl_at hf
    refine lv_ldiv C.1 C.2.1 (dk_at dkX6_told 8 rfl) h6 ?_
    refine lv_topl (fun x7 ex7 => ?_)
    have hf := nm_at ex7 hf
    refine lv_goto (tgt := 23) C.1 C.2.1 (dk_at dkX6_told 9 rfl) (by decide) ?_
    cases hf
    exact fin _ _ _ (dk_at dkX6_told 13 rfl) rfl
-- X6.findOdds
abbrev tbX6_findOdds : List (Nat × Instr × Nat) := [(0, .aload_n 0, 1), (1, .lconst 0, 1), (2, .putfield 275, 3), (5, .aload_n 0, 1), (6, .lconst 0, 1), (7, .putfield 279, 3), (10, .aload_n 0, 1), (11, .lconst 1, 1), (12, .putfield 282, 3), (15, .iconst 0, 1), (16, .istore 4, 2), (18, .iload 4, 2), (20, .bipush 10, 2), (22, .if_icmp .ge 21, 3), (25, .aload_n 0, 1), (26, .dup, 1), (27, .getfield 282, 3), (30, .ldc2_w 285, 3), (33, .lmul, 1), (34, .putfield 282, 3), (37, .iinc 4 1, 3), (40, .goto (-22), 3), (43, .iconst 0, 1), (44, .istore 4, 2), (46, .iload 4, 2), (48, .sipush 1024, 3), (51, .if_icmp .ge 155, 3), (54, .lconst 1, 1), (55, .lstore 5, 2), (57, .aload_n 0, 1), (58, .invokevirtual 201, 3), (61, .iconst 0, 1), (62, .istore 7, 2), (64, .iload 7, 2), (66, .bipush 10, 2), (68, .if_icmp .ge 76, 3), (71, .iload 4, 2), (73, .iload 7, 2), (75, .ishr, 1), (76, .iconst 1, 1), (77, .iand, 1), (78, .iconst 1, 1), (79, .if_icmp .ne 7, 3), (82, .iconst 1, 1), (83, .goto 4, 3), (86, .iconst 0, 1), (87, .istore 8, 2), (89, .lload 5, 2), (91, .iload 8, 2), (93, .ifCond .eq 8, 3), (96, .iload_n 1, 1), (97, .i2l, 1), (98, .goto 8, 3), (101, .bipush 10, 2), (103, .iload_n 1, 1), (104, .isub, 1), (105, .i2l, 1), (106, .lmul, 1), (107, .lstore 5, 2), (109, .aload_n 0, 1), (110, .getfield 13, 3), (113, .bipush 8, 2), (115, .iload 7, 2), (117, .iadd, 1), (118, .iload 8, 2), (120, .ifCond .eq 7, 3), (123, .iconst 4, 1), (124, .goto 13, 3), (127, .aload_n 0, 1), (128, .getfield 13, 3), (131, .bipush 8, 2), (133, .iload 7, 2), (135, .iadd, 1), (136, .iaload, 1), (137, .iastore, 1), (138, .iinc 7 1, 3), (141, .goto (-77), 3), (144, .lload 5, 2), (146, .lconst 0, 1), (147, .lcmp, 1), (148, .ifCond .le 52, 3), (151, .aload_n 0, 1), (152, .invokevirtual 204, 3), (155, .aload_n 0, 1), (156, .dup, 1), (157, .getfield 275, 3), (160, .aload_n 0, 1), (161, .iload_n 3, 1), (162, .invokevirtual 240, 3), (165, .iload_n 2, 1), (166, .ishr, 1), (167, .iconst 1, 1), (168, .iand, 1), (169, .iconst 1, 1), (170, .if_icmp .ne 8, 3), (173, .lload 5, 2), (175, .goto 4, 3), (178, .lconst 0, 1), (179, .ladd, 1), (180, .putfield 275, 3), (183, .aload_n 0, 1), (184, .dup, 1), (185, .getfield 279, 3), (188, .lload 5, 2), (190, .aload_n 0, 1), (191, .invokevirtual 246, 3), (194, .i2l, 1), (195, .lmul, 1), (196, .ladd, 1), (197, .putfield 279, 3), (200, .iinc 4 1, 3), (203, .goto (-157), 3), (206, .return_, 1)]
theorem dkX6_findOdds : dk cX6_findOdds tbX6_findOdds := dk_of (by decide +kernel)
abbrev cdX6_findOdds : Cond := Cond.code yX6_findOdds cX6_findOdds 9 none
abbrev rmX6_findOdds : Room := { frames := 4, cells := 0, slots := 0, locals := 97 }
theorem mwX6_findOdds : Cond.instanceMethod yX6_findOdds ∈ wsL_law ∧ Cond.selects RX6 yX6_findOdds yX6_findOdds ∈ wsL_law ∧ Cond.initialized RX6 ∈ wsL_law ∧ cdX6_findOdds ∈ wsL_law := ⟨inr34 _ (List.mem_of_getElem? (i := 8) rfl), inr34 _ (List.mem_of_getElem? (i := 9) rfl), inr1 _ (List.mem_of_getElem? (i := 5) rfl), inr34 _ (List.mem_of_getElem? (i := 10) rfl)⟩
theorem hdX6_findOdds : yX6_findOdds.cls = RX6 ∧ yX6_findOdds.cls ≠ "java/lang/invoke/MethodHandle" ∧ yX6_findOdds.cls ≠ "java/lang/invoke/VarHandle" ∧ (parseMethodDescriptor yX6_findOdds.desc).map (fun d => d.parameters.length) = some 3 := by decide +kernel
set_option maxHeartbeats 4000000 in
set_option maxRecDepth 100000 in
theorem kX6_findOdds (l : Launch) (g : Gx) (sz : Nat) (a_m : Nat → Nat) (st : AI) (now : AI) (isKept : AI) (hearers : Int32) (draft : AI) (dHearers : Int32) (dWalls : Int32) (toldWinds : Int32) (tape : AI) (taped : Int32) (pos : Int32) (frm : Int32) (sort : Int32) (value : Int32) (fault : Int32) (wrongAt : Int32) (landed : AI) (landedIn : AI) (stepped : AI) (isThere : AI) (isAt : AI) (isNext : AI) (landSum : Int64) (heardSum : Int64) (allWays : Int64) (ways : AI) (drawn : AI) (lanes : AI) (sizes : AI) (cells : AI) (torn : Int32) (before : AI) (p1 : Int32) (p2 : Int32) (p3 : Int32) (now_o : AI) (landed_o : AI) (landedIn_o : AI) (stepped_o : AI) (landSum_o : Int64) (heardSum_o : Int64) (allWays_o : Int64) (hf : fX6_findOdds p1 p2 p3 st now hearers landed landedIn stepped landSum heardSum allWays = some (now_o, landed_o, landedIn_o, stepped_o, landSum_o, heardSum_o, allWays_o)) : Met l yX6_findOdds (cdX6_findOdds :: wsL_law) rmX6_findOdds (va_Pc [.ref (a_m 0), .int p1, .int p2, .int p3] (RWp g sz (wM g a_m st now isKept hearers draft dHearers dWalls toldWinds tape taped pos frm sort value fault wrongAt landed landedIn stepped isThere isAt isNext landSum heardSum allWays ways drawn lanes sizes cells torn before))) (va_Qv (fun _ : Unit => True) (fun _ => RWq g (va_A (wM g a_m st now isKept hearers draft dHearers dWalls toldWinds tape taped pos frm sort value fault wrongAt landed landedIn stepped isThere isAt isNext landSum heardSum allWays ways drawn lanes sizes cells torn before) sz) (wM g a_m st now_o isKept hearers draft dHearers dWalls toldWinds tape taped pos frm sort value fault wrongAt landed_o landedIn_o stepped_o isThere isAt isNext landSum_o heardSum_o allWays_o ways drawn lanes sizes cells torn before)) (va_A (wM g a_m st now isKept hearers draft dHearers dWalls toldWinds tape taped pos frm sort value fault wrongAt landed landedIn stepped isThere isAt isNext landSum heardSum allWays ways drawn lanes sizes cells torn before) sz)) 0 0 (va_A (wM g a_m st now isKept hearers draft dHearers dWalls toldWinds tape taped pos frm sort value fault wrongAt landed landedIn stepped isThere isAt isNext landSum heardSum allWays ways drawn lanes sizes cells torn before) sz) := by
  refine Met_rwv (cc := cX6_findOdds) (maxL := 9) (by decide) rfl (Nat.le_of_ble_eq_true rfl) ?_
  intro P E Z Mi AR BE ME CO A Q C hK hA fin w ls hl
  have hl : lv_has ls 9 [(0, .ref (a_m 0)), (1, .int p1), (2, .int p2), (3, .int p3)] := hl
  unfold fX6_findOdds at hf
  refine lv_aload_n C.1 C.2.1 (dk_at dkX6_findOdds 0 rfl) rfl (lv_at hl 0 rfl) ?_
  refine lv_lconst (v := 0) C.1 C.2.1 (dk_at dkX6_findOdds 1 rfl) (by decide) ?_
  refine r_put (v := .long 0) C hK w (fun w h => List.mem_cons_of_mem _ (inlX6 w h)) tyX6 tyX6_ok nmX6 0 rfl rfl 22 (by decide) (List.mem_cons_of_mem _ (inr34 _ (List.mem_of_getElem? (i := 5) rfl))) rfl rfl rfl (Nat.le_of_ble_eq_true rfl) (dk_at dkX6_findOdds 2 rfl) (fun H locs w => ?_)
  have w : Wd g A Z.heap (wM g a_m st now isKept hearers draft dHearers dWalls toldWinds tape taped pos frm sort value fault wrongAt landed landedIn stepped isThere isAt isNext 0 heardSum allWays ways drawn lanes sizes cells torn before) H locs := w
  refine lv_aload_n C.1 C.2.1 (dk_at dkX6_findOdds 3 rfl) rfl (lv_at hl 0 rfl) ?_
  refine lv_lconst (v := 0) C.1 C.2.1 (dk_at dkX6_findOdds 4 rfl) (by decide) ?_
  refine r_put (v := .long 0) C hK w (fun w h => List.mem_cons_of_mem _ (inlX6 w h)) tyX6 tyX6_ok nmX6 0 rfl rfl 23 (by decide) (List.mem_cons_of_mem _ (inr34 _ (List.mem_of_getElem? (i := 11) rfl))) rfl rfl rfl (Nat.le_of_ble_eq_true rfl) (dk_at dkX6_findOdds 5 rfl) (fun H locs w => ?_)
  have w : Wd g A Z.heap (wM g a_m st now isKept hearers draft dHearers dWalls toldWinds tape taped pos frm sort value fault wrongAt landed landedIn stepped isThere isAt isNext 0 0 allWays ways drawn lanes sizes cells torn before) H locs := w
  refine lv_aload_n C.1 C.2.1 (dk_at dkX6_findOdds 6 rfl) rfl (lv_at hl 0 rfl) ?_
  refine lv_lconst (v := 1) C.1 C.2.1 (dk_at dkX6_findOdds 7 rfl) (by decide) ?_
  refine r_put (v := .long 1) C hK w (fun w h => List.mem_cons_of_mem _ (inlX6 w h)) tyX6 tyX6_ok nmX6 0 rfl rfl 24 (by decide) (List.mem_cons_of_mem _ (inr34 _ (List.mem_of_getElem? (i := 6) rfl))) rfl rfl rfl (Nat.le_of_ble_eq_true rfl) (dk_at dkX6_findOdds 8 rfl) (fun H locs w => ?_)
  have w : Wd g A Z.heap (wM g a_m st now isKept hearers draft dHearers dWalls toldWinds tape taped pos frm sort value fault wrongAt landed landedIn stepped isThere isAt isNext 0 0 1 ways drawn lanes sizes cells torn before) H locs := w
  refine lv_iconst (v := 0) C.1 C.2.1 (dk_at dkX6_findOdds 9 rfl) (by decide) ?_
  refine lv_istore (lv' := [(4, .int 0), (0, .ref (a_m 0)), (1, .int p1), (2, .int p2), (3, .int p3)]) C.1 C.2.1 (dk_at dkX6_findOdds 10 rfl) hl (by decide) rfl (fun ls hl => ?_)
  have L3 : ∀ (K : Int32 → Int64 → Option (AI × AI × AI × AI × Int64 × Int64 × Int64)), (∀ (v1 : Int32) (allWays_2 : Int64) (H : Heap) (locs : List Loc) (ls : Array Slot), Wd g A Z.heap (wM g a_m st now isKept hearers draft dHearers dWalls toldWinds tape taped pos frm sort value fault wrongAt landed landedIn stepped isThere isAt isNext 0 0 allWays_2 ways drawn lanes sizes cells torn before) H locs → lv_has ls 9 [(0, .ref (a_m 0)), (1, .int p1), (2, .int p2), (3, .int p3)] → K v1 allWays_2 = some (now_o, landed_o, landedIn_o, stepped_o, landSum_o, heardSum_o, allWays_o) → W P l E rmX6_findOdds Z Mi AR BE ME CO H locs 0 0 Q (F0 Mi 43 ls [])) → ∀ (n : Nat), ∀ (v1 : Int32) (allWays_2 : Int64) (H : Heap) (locs : List Loc) (ls : Array Slot), Wd g A Z.heap (wM g a_m st now isKept hearers draft dHearers dWalls toldWinds tape taped pos frm sort value fault wrongAt landed landedIn stepped isThere isAt isNext 0 0 allWays_2 ways drawn lanes sizes cells torn before) H locs → lv_has ls 9 [(4, .int v1), (0, .ref (a_m 0)), (1, .int p1), (2, .int p2), (3, .int p3)] → fX6_findOdds_L18 K n v1 allWays_2 = some (now_o, landed_o, landedIn_o, stepped_o, landSum_o, heardSum_o, allWays_o) → W P l E rmX6_findOdds Z Mi AR BE ME CO H locs 0 0 Q (F0 Mi 18 ls []) := by
    intro K hKe n
    induction n with
    | zero => intro v1 allWays_2 H locs ls w hl hf; cases hf
    | succ n ih =>
      intro v1 allWays_2 H locs ls w hl hf
      rw [fX6_findOdds_L18] at hf
      refine lv_iload C.1 C.2.1 (dk_at dkX6_findOdds 11 rfl) (lv_at hl 0 rfl) ?_
      refine lv_bipush (v := 10) C.1 C.2.1 (dk_at dkX6_findOdds 12 rfl) (by decide) ?_
      refine lv_icmp_ge (tgt := 43) C.1 C.2.1 (dk_at dkX6_findOdds 13 rfl) (by decide) (fun c4 => ?_) (fun c4 => ?_)
      · have hf := (if_pos c4).symm.trans hf
        exact hKe v1 allWays_2 _ _ _ w (lv_sub hl [1, 2, 3, 4] rfl) hf
      · have hf := (if_neg c4).symm.trans hf
        refine lv_aload_n C.1 C.2.1 (dk_at dkX6_findOdds 14 rfl) rfl (lv_at hl 1 rfl) ?_
        refine lv_dup C.1 C.2.1 (dk_at dkX6_findOdds 15 rfl) rfl ?_
        refine r_get (v := .long allWays_2) C hK w.1 (fun w h => List.mem_cons_of_mem _ (inlX6 w h)) 0 rfl rfl 24 (by decide) (List.mem_cons_of_mem _ (inr34 _ (List.mem_of_getElem? (i := 6) rfl))) rfl (dk_at dkX6_findOdds 16 rfl) ?_
        refine lv_ldc2 (v := 10) C.1 C.2.1 C.2.2.2.1 (C.2.2.2.2 _ (List.mem_cons_of_mem _ (inr34 _ (List.mem_of_getElem? (i := 3) rfl)))) (dk_at dkX6_findOdds 17 rfl) ?_
        refine lv_lmul C.1 C.2.1 (dk_at dkX6_findOdds 18 rfl) ?_
        refine lv_topl (fun x5 ex5 => ?_)
        have hf := nm_at ex5 hf
        refine r_put (v := .long x5) C hK w (fun w h => List.mem_cons_of_mem _ (inlX6 w h)) tyX6 tyX6_ok nmX6 0 rfl rfl 24 (by decide) (List.mem_cons_of_mem _ (inr34 _ (List.mem_of_getElem? (i := 6) rfl))) rfl rfl rfl (Nat.le_of_ble_eq_true rfl) (dk_at dkX6_findOdds 19 rfl) (fun H locs w => ?_)
        have w : Wd g A Z.heap (wM g a_m st now isKept hearers draft dHearers dWalls toldWinds tape taped pos frm sort value fault wrongAt landed landedIn stepped isThere isAt isNext 0 0 x5 ways drawn lanes sizes cells torn before) H locs := w
        obtain ⟨x6, ex6⟩ : ∃ z : Int32, z = v1 + 1 := ⟨_, rfl⟩
        have hf := nm_at ex6 hf
        refine lv_iinc (v := x6) (lv' := [(4, .int x6), (0, .ref (a_m 0)), (1, .int p1), (2, .int p2), (3, .int p3)]) C.1 C.2.1 (dk_at dkX6_findOdds 20 rfl) hl (k := 0) rfl (by rw [ex6]; rfl) (by decide) rfl (fun ls hl => ?_)
        refine lv_goto (tgt := 18) C.1 C.2.1 (dk_at dkX6_findOdds 21 rfl) (by decide) ?_
        exact ih x6 x5 _ _ _ w (lv_sub hl [0, 1, 2, 3, 4] rfl) hf
  refine L3 _ ?_ 4096 0 1 _ _ _ w (lv_sub hl [0, 1, 2, 3, 4] rfl) hf
  clear hf
  intro v1 allWays_2 H locs ls w hl hf
  refine lv_iconst (v := 0) C.1 C.2.1 (dk_at dkX6_findOdds 22 rfl) (by decide) ?_
  refine lv_istore (lv' := [(4, .int 0), (0, .ref (a_m 0)), (1, .int p1), (2, .int p2), (3, .int p3)]) C.1 C.2.1 (dk_at dkX6_findOdds 23 rfl) hl (by decide) rfl (fun ls hl => ?_)
  have L14 : ∀ (K : Int32 → AI → AI → AI → AI → Int64 → Int64 → Option (AI × AI × AI × AI × Int64 × Int64 × Int64)), (∀ (v7 : Int32) (now_8 : AI) (landed_9 : AI) (landedIn_10 : AI) (stepped_11 : AI) (landSum_12 : Int64) (heardSum_13 : Int64) (H : Heap) (locs : List Loc) (ls : Array Slot), Wd g A Z.heap (wM g a_m st now_8 isKept hearers draft dHearers dWalls toldWinds tape taped pos frm sort value fault wrongAt landed_9 landedIn_10 stepped_11 isThere isAt isNext landSum_12 heardSum_13 allWays_2 ways drawn lanes sizes cells torn before) H locs → lv_has ls 9 [] → K v7 now_8 landed_9 landedIn_10 stepped_11 landSum_12 heardSum_13 = some (now_o, landed_o, landedIn_o, stepped_o, landSum_o, heardSum_o, allWays_o) → W P l E rmX6_findOdds Z Mi AR BE ME CO H locs 0 0 Q (F0 Mi 206 ls [])) → ∀ (n : Nat), ∀ (v7 : Int32) (now_8 : AI) (landed_9 : AI) (landedIn_10 : AI) (stepped_11 : AI) (landSum_12 : Int64) (heardSum_13 : Int64) (H : Heap) (locs : List Loc) (ls : Array Slot), Wd g A Z.heap (wM g a_m st now_8 isKept hearers draft dHearers dWalls toldWinds tape taped pos frm sort value fault wrongAt landed_9 landedIn_10 stepped_11 isThere isAt isNext landSum_12 heardSum_13 allWays_2 ways drawn lanes sizes cells torn before) H locs → lv_has ls 9 [(4, .int v7), (0, .ref (a_m 0)), (1, .int p1), (2, .int p2), (3, .int p3)] → fX6_findOdds_L46 st hearers p1 p2 p3 K n v7 now_8 landed_9 landedIn_10 stepped_11 landSum_12 heardSum_13 = some (now_o, landed_o, landedIn_o, stepped_o, landSum_o, heardSum_o, allWays_o) → W P l E rmX6_findOdds Z Mi AR BE ME CO H locs 0 0 Q (F0 Mi 46 ls []) := by
    intro K hKe n
    induction n with
    | zero => intro v7 now_8 landed_9 landedIn_10 stepped_11 landSum_12 heardSum_13 H locs ls w hl hf; cases hf
    | succ n ih =>
      intro v7 now_8 landed_9 landedIn_10 stepped_11 landSum_12 heardSum_13 H locs ls w hl hf
      rw [fX6_findOdds_L46] at hf
      refine lv_iload C.1 C.2.1 (dk_at dkX6_findOdds 24 rfl) (lv_at hl 0 rfl) ?_
      refine lv_sipush (v := 1024) C.1 C.2.1 (dk_at dkX6_findOdds 25 rfl) (by decide) ?_
      refine lv_icmp_ge (tgt := 206) C.1 C.2.1 (dk_at dkX6_findOdds 26 rfl) (by decide) (fun c15 => ?_) (fun c15 => ?_)
      · have hf := (if_pos c15).symm.trans hf
        exact hKe v7 now_8 landed_9 landedIn_10 stepped_11 landSum_12 heardSum_13 _ _ _ w (lv_sub hl [] rfl) hf
      · have hf := (if_neg c15).symm.trans hf
        refine lv_lconst (v := 1) C.1 C.2.1 (dk_at dkX6_findOdds 27 rfl) (by decide) ?_
        refine lv_lstore (lv' := [(5, .long 1), (4, .int v7), (0, .ref (a_m 0)), (1, .int p1), (2, .int p2), (3, .int p3)]) C.1 C.2.1 (dk_at dkX6_findOdds 28 rfl) hl (by decide) rfl (fun ls hl => ?_)
        refine lv_aload_n C.1 C.2.1 (dk_at dkX6_findOdds 29 rfl) rfl (lv_at hl 2 rfl) ?_
        obtain ⟨now_16, hq17, hf⟩ := bd1_at hf
        refine r_rwv (As := []) (rest := []) (wr := []) (ws' := wM g a_m st now_16 isKept hearers draft dHearers dWalls toldWinds tape taped pos frm sort value fault wrongAt landed_9 landedIn_10 stepped_11 isThere isAt isNext landSum_12 heardSum_13 allWays_2 ways drawn lanes sizes cells torn before) C (kX6_starts l g _ a_m st now_8 isKept hearers draft dHearers dWalls toldWinds tape taped pos frm sort value fault wrongAt landed_9 landedIn_10 stepped_11 isThere isAt isNext landSum_12 heardSum_13 allWays_2 ways drawn lanes sizes cells torn before now_16 hq17) (cwV0 C (inr17 _ (List.mem_of_getElem? (i := 3) rfl)) mwX6_starts hdX6_starts ⟨Nat.le_of_ble_eq_true rfl, Nat.le_of_ble_eq_true rfl⟩) hK w hA [0, 1, 2, 3, 4, 5, 6, 7, 8, 9, 10, 11, 12, 13, 14, 15, 16, 17] [] [0, 1, 2, 3, 4, 5, 6, 7, 8, 9, 10, 11, 12, 13, 14, 15, 16, 17] (by decide) rfl rfl (by decide) (by decide) rfl (by decide) rfl rfl rfl hl.1 rfl (Nat.le_of_ble_eq_true rfl) ⟨Nat.zero_le _, Nat.zero_le _⟩ (dk_at dkX6_findOdds 30 rfl) (fun H locs w => ?_)
        refine lv_iconst (v := 0) C.1 C.2.1 (dk_at dkX6_findOdds 31 rfl) (by decide) ?_
        refine lv_istore (lv' := [(7, .int 0), (5, .long 1), (4, .int v7), (0, .ref (a_m 0)), (1, .int p1), (2, .int p2), (3, .int p3)]) C.1 C.2.1 (dk_at dkX6_findOdds 32 rfl) hl (by decide) rfl (fun ls hl => ?_)
        have L21 : ∀ (K : Int32 → Int64 → AI → Option (AI × AI × AI × AI × Int64 × Int64 × Int64)), (∀ (v18 : Int32) (v19 : Int64) (now_20 : AI) (H : Heap) (locs : List Loc) (ls : Array Slot), Wd g A Z.heap (wM g a_m st now_20 isKept hearers draft dHearers dWalls toldWinds tape taped pos frm sort value fault wrongAt landed_9 landedIn_10 stepped_11 isThere isAt isNext landSum_12 heardSum_13 allWays_2 ways drawn lanes sizes cells torn before) H locs → lv_has ls 9 [(5, .long v19), (4, .int v7), (0, .ref (a_m 0)), (1, .int p1), (2, .int p2), (3, .int p3)] → K v18 v19 now_20 = some (now_o, landed_o, landedIn_o, stepped_o, landSum_o, heardSum_o, allWays_o) → W P l E rmX6_findOdds Z Mi AR BE ME CO H locs 0 0 Q (F0 Mi 144 ls [])) → ∀ (n : Nat), ∀ (v18 : Int32) (v19 : Int64) (now_20 : AI) (H : Heap) (locs : List Loc) (ls : Array Slot), Wd g A Z.heap (wM g a_m st now_20 isKept hearers draft dHearers dWalls toldWinds tape taped pos frm sort value fault wrongAt landed_9 landedIn_10 stepped_11 isThere isAt isNext landSum_12 heardSum_13 allWays_2 ways drawn lanes sizes cells torn before) H locs → lv_has ls 9 [(7, .int v18), (5, .long v19), (4, .int v7), (0, .ref (a_m 0)), (1, .int p1), (2, .int p2), (3, .int p3)] → fX6_findOdds_L64 p1 v7 K n v18 v19 now_20 = some (now_o, landed_o, landedIn_o, stepped_o, landSum_o, heardSum_o, allWays_o) → W P l E rmX6_findOdds Z Mi AR BE ME CO H locs 0 0 Q (F0 Mi 64 ls []) := by
          intro K hKe n
          induction n with
          | zero => intro v18 v19 now_20 H locs ls w hl hf; cases hf
          | succ n ih =>
            intro v18 v19 now_20 H locs ls w hl hf
            rw [fX6_findOdds_L64] at hf
            refine lv_iload C.1 C.2.1 (dk_at dkX6_findOdds 33 rfl) (lv_at hl 0 rfl) ?_
            refine lv_bipush (v := 10) C.1 C.2.1 (dk_at dkX6_findOdds 34 rfl) (by decide) ?_
            refine lv_icmp_ge (tgt := 144) C.1 C.2.1 (dk_at dkX6_findOdds 35 rfl) (by decide) (fun c22 => ?_) (fun c22 => ?_)
            · have hf := (if_pos c22).symm.trans hf
              exact hKe v18 v19 now_20 _ _ _ w (lv_sub hl [1, 2, 3, 4, 5, 6] rfl) hf
            · have hf := (if_neg c22).symm.trans hf
              refine lv_iload C.1 C.2.1 (dk_at dkX6_findOdds 36 rfl) (lv_at hl 2 rfl) ?_
              refine lv_iload C.1 C.2.1 (dk_at dkX6_findOdds 37 rfl) (lv_at hl 0 rfl) ?_
              refine lv_ishr C.1 C.2.1 (dk_at dkX6_findOdds 38 rfl) ?_
              refine lv_topi (fun x23 ex23 => ?_)
              have hf := nm_at ex23 hf
              refine lv_iconst (v := 1) C.1 C.2.1 (dk_at dkX6_findOdds 39 rfl) (by decide) ?_
              refine lv_iand C.1 C.2.1 (dk_at dkX6_findOdds 40 rfl) ?_
              refine lv_topi (fun x24 ex24 => ?_)
              have hf := nm_at ex24 hf
              refine lv_iconst (v := 1) C.1 C.2.1 (dk_at dkX6_findOdds 41 rfl) (by decide) ?_
              obtain ⟨y25, hq26, hf⟩ := bd1_at hf
              have J27 : ∀ (H : Heap) (locs : List Loc) (ls : Array Slot), Wd g A Z.heap (wM g a_m st now_20 isKept hearers draft dHearers dWalls toldWinds tape taped pos frm sort value fault wrongAt landed_9 landedIn_10 stepped_11 isThere isAt isNext landSum_12 heardSum_13 allWays_2 ways drawn lanes sizes cells torn before) H locs → lv_has ls 9 [(7, .int v18), (5, .long v19), (4, .int v7), (0, .ref (a_m 0)), (1, .int p1), (2, .int p2), (3, .int p3)] → W P l E rmX6_findOdds Z Mi AR BE ME CO H locs 0 0 Q (F0 Mi 87 ls [.int y25]) := by
                intro H locs ls w hl
                refine lv_istore (lv' := [(8, .int y25), (7, .int v18), (5, .long v19), (4, .int v7), (0, .ref (a_m 0)), (1, .int p1), (2, .int p2), (3, .int p3)]) C.1 C.2.1 (dk_at dkX6_findOdds 46 rfl) hl (by decide) rfl (fun ls hl => ?_)
                refine lv_lload C.1 C.2.1 (dk_at dkX6_findOdds 47 rfl) (lv_at hl 2 rfl) ?_
                refine lv_iload C.1 C.2.1 (dk_at dkX6_findOdds 48 rfl) (lv_at hl 0 rfl) ?_
                obtain ⟨y28, hq29, hf⟩ := bd1_at hf
                have J30 : ∀ (H : Heap) (locs : List Loc) (ls : Array Slot), Wd g A Z.heap (wM g a_m st now_20 isKept hearers draft dHearers dWalls toldWinds tape taped pos frm sort value fault wrongAt landed_9 landedIn_10 stepped_11 isThere isAt isNext landSum_12 heardSum_13 allWays_2 ways drawn lanes sizes cells torn before) H locs → lv_has ls 9 [(8, .int y25), (7, .int v18), (4, .int v7), (0, .ref (a_m 0)), (1, .int p1), (2, .int p2), (3, .int p3)] → W P l E rmX6_findOdds Z Mi AR BE ME CO H locs 0 0 Q (F0 Mi 106 ls [.long y28, .long v19]) := by
                  intro H locs ls w hl
                  refine lv_lmul C.1 C.2.1 (dk_at dkX6_findOdds 57 rfl) ?_
                  refine lv_topl (fun x31 ex31 => ?_)
                  have hf := nm_at ex31 hf
                  refine lv_lstore (lv' := [(5, .long x31), (8, .int y25), (7, .int v18), (4, .int v7), (0, .ref (a_m 0)), (1, .int p1), (2, .int p2), (3, .int p3)]) C.1 C.2.1 (dk_at dkX6_findOdds 58 rfl) hl (by decide) rfl (fun ls hl => ?_)
                  refine lv_aload_n C.1 C.2.1 (dk_at dkX6_findOdds 59 rfl) rfl (lv_at hl 4 rfl) ?_
                  refine r_get (v := .ref (a_m 2)) C hK w.1 (fun w h => List.mem_cons_of_mem _ (inlX6 w h)) 0 rfl rfl 1 (by decide) (List.mem_cons_of_mem _ (inr4 _ (List.mem_of_getElem? (i := 5) rfl))) rfl (dk_at dkX6_findOdds 60 rfl) ?_
                  refine lv_bipush (v := 8) C.1 C.2.1 (dk_at dkX6_findOdds 61 rfl) (by decide) ?_
                  refine lv_iload C.1 C.2.1 (dk_at dkX6_findOdds 62 rfl) (lv_at hl 2 rfl) ?_
                  refine lv_iadd C.1 C.2.1 (dk_at dkX6_findOdds 63 rfl) ?_
                  refine lv_topi (fun x32 ex32 => ?_)
                  have hf := nm_at ex32 hf
                  refine lv_iload C.1 C.2.1 (dk_at dkX6_findOdds 64 rfl) (lv_at hl 1 rfl) ?_
                  refine lv_if_eq (tgt := 127) C.1 C.2.1 (dk_at dkX6_findOdds 65 rfl) (by decide) (fun c33 => ?_) (fun c33 => ?_)
                  · have hf := (if_pos c33).symm.trans hf
                    refine lv_aload_n C.1 C.2.1 (dk_at dkX6_findOdds 68 rfl) rfl (lv_at hl 4 rfl) ?_
                    refine r_get (v := .ref (a_m 2)) C hK w.1 (fun w h => List.mem_cons_of_mem _ (inlX6 w h)) 0 rfl rfl 1 (by decide) (List.mem_cons_of_mem _ (inr4 _ (List.mem_of_getElem? (i := 5) rfl))) rfl (dk_at dkX6_findOdds 69 rfl) ?_
                    refine lv_bipush (v := 8) C.1 C.2.1 (dk_at dkX6_findOdds 70 rfl) (by decide) ?_
                    refine lv_iload C.1 C.2.1 (dk_at dkX6_findOdds 71 rfl) (lv_at hl 2 rfl) ?_
                    refine lv_iadd C.1 C.2.1 (dk_at dkX6_findOdds 72 rfl) ?_
                    refine lv_topi (fun x34 ex34 => ?_)
                    have hf := nm_at ex34 hf
                    obtain ⟨h35, hf⟩ := gd_at hf
                    refine r_iald (k := x34.toNatClampNeg) (f := now_20) C hK w.1 2 rfl h35 rfl (dk_at dkX6_findOdds 73 rfl) ?_
                    refine lv_topi (fun x36 ex36 => ?_)
                    have hf := nm_at ex36 hf
                    obtain ⟨h37, hf⟩ := gd_at hf
                    refine r_iast (k := x32.toNatClampNeg) (f := now_20) C hK w 2 rfl h37 rfl (dk_at dkX6_findOdds 74 rfl) (fun H locs w => ?_)
                    obtain ⟨now_38, enow_38⟩ : ∃ z : AI, z = upd now_20 x32.toNatClampNeg x36 := ⟨_, rfl⟩
                    have hf := nm_at enow_38 hf
                    have w : Wd g A Z.heap (wM g a_m st now_38 isKept hearers draft dHearers dWalls toldWinds tape taped pos frm sort value fault wrongAt landed_9 landedIn_10 stepped_11 isThere isAt isNext landSum_12 heardSum_13 allWays_2 ways drawn lanes sizes cells torn before) H locs := by rw [enow_38]; exact w
                    obtain ⟨x39, ex39⟩ : ∃ z : Int32, z = v18 + 1 := ⟨_, rfl⟩
                    have hf := nm_at ex39 hf
                    refine lv_iinc (v := x39) (lv' := [(7, .int x39), (5, .long x31), (8, .int y25), (4, .int v7), (0, .ref (a_m 0)), (1, .int p1), (2, .int p2), (3, .int p3)]) C.1 C.2.1 (dk_at dkX6_findOdds 75 rfl) hl (k := 2) rfl (by rw [ex39]; rfl) (by decide) rfl (fun ls hl => ?_)
                    refine lv_goto (tgt := 64) C.1 C.2.1 (dk_at dkX6_findOdds 76 rfl) (by decide) ?_
                    exact ih x39 x31 now_38 _ _ _ w (lv_sub hl [0, 1, 3, 4, 5, 6, 7] rfl) hf
                  · have hf := (if_neg c33).symm.trans hf
                    refine lv_iconst (v := 4) C.1 C.2.1 (dk_at dkX6_findOdds 66 rfl) (by decide) ?_
                    refine lv_goto (tgt := 137) C.1 C.2.1 (dk_at dkX6_findOdds 67 rfl) (by decide) ?_
                    obtain ⟨h40, hf⟩ := gd_at hf
                    refine r_iast (k := x32.toNatClampNeg) (f := now_20) C hK w 2 rfl h40 rfl (dk_at dkX6_findOdds 74 rfl) (fun H locs w => ?_)
                    obtain ⟨now_41, enow_41⟩ : ∃ z : AI, z = upd now_20 x32.toNatClampNeg 4 := ⟨_, rfl⟩
                    have hf := nm_at enow_41 hf
                    have w : Wd g A Z.heap (wM g a_m st now_41 isKept hearers draft dHearers dWalls toldWinds tape taped pos frm sort value fault wrongAt landed_9 landedIn_10 stepped_11 isThere isAt isNext landSum_12 heardSum_13 allWays_2 ways drawn lanes sizes cells torn before) H locs := by rw [enow_41]; exact w
                    obtain ⟨x42, ex42⟩ : ∃ z : Int32, z = v18 + 1 := ⟨_, rfl⟩
                    have hf := nm_at ex42 hf
                    refine lv_iinc (v := x42) (lv' := [(7, .int x42), (5, .long x31), (8, .int y25), (4, .int v7), (0, .ref (a_m 0)), (1, .int p1), (2, .int p2), (3, .int p3)]) C.1 C.2.1 (dk_at dkX6_findOdds 75 rfl) hl (k := 2) rfl (by rw [ex42]; rfl) (by decide) rfl (fun ls hl => ?_)
                    refine lv_goto (tgt := 64) C.1 C.2.1 (dk_at dkX6_findOdds 76 rfl) (by decide) ?_
                    exact ih x42 x31 now_41 _ _ _ w (lv_sub hl [0, 1, 3, 4, 5, 6, 7] rfl) hf
                clear hf
                have hf := hq29
                refine lv_if_eq (tgt := 101) C.1 C.2.1 (dk_at dkX6_findOdds 49 rfl) (by decide) (fun c43 => ?_) (fun c43 => ?_)
                · have hf := (if_pos c43).symm.trans hf
                  refine lv_bipush (v := 10) C.1 C.2.1 (dk_at dkX6_findOdds 53 rfl) (by decide) ?_
                  refine lv_iload_n C.1 C.2.1 (dk_at dkX6_findOdds 54 rfl) rfl (lv_at hl 5 rfl) ?_
                  refine lv_isub C.1 C.2.1 (dk_at dkX6_findOdds 55 rfl) ?_
                  refine lv_i2l C.1 C.2.1 (dk_at dkX6_findOdds 56 rfl) rfl ?_
                  refine lv_topl (fun x44 ex44 => ?_)
                  have hf := nm_at ex44 hf
                  cases hf
                  exact J30 _ _ _ w (lv_sub hl [0, 1, 3, 4, 5, 6, 7] rfl)
                · have hf := (if_neg c43).symm.trans hf
                  refine lv_iload_n C.1 C.2.1 (dk_at dkX6_findOdds 50 rfl) rfl (lv_at hl 5 rfl) ?_
                  refine lv_i2l C.1 C.2.1 (dk_at dkX6_findOdds 51 rfl) rfl ?_
                  refine lv_topl (fun x45 ex45 => ?_)
                  have hf := nm_at ex45 hf
                  refine lv_goto (tgt := 106) C.1 C.2.1 (dk_at dkX6_findOdds 52 rfl) (by decide) ?_
                  cases hf
                  exact J30 _ _ _ w (lv_sub hl [0, 1, 3, 4, 5, 6, 7] rfl)
              clear hf
              have hf := hq26
              refine lv_icmp_ne (tgt := 86) C.1 C.2.1 (dk_at dkX6_findOdds 42 rfl) (by decide) (fun c46 => ?_) (fun c46 => ?_)
              · have hf := (if_neg c46).symm.trans hf
                refine lv_iconst (v := 0) C.1 C.2.1 (dk_at dkX6_findOdds 45 rfl) (by decide) ?_
                cases hf
                exact J27 _ _ _ w (lv_sub hl [0, 1, 2, 3, 4, 5, 6] rfl)
              · have hf := (if_pos c46).symm.trans hf
                refine lv_iconst (v := 1) C.1 C.2.1 (dk_at dkX6_findOdds 43 rfl) (by decide) ?_
                refine lv_goto (tgt := 87) C.1 C.2.1 (dk_at dkX6_findOdds 44 rfl) (by decide) ?_
                cases hf
                exact J27 _ _ _ w (lv_sub hl [0, 1, 2, 3, 4, 5, 6] rfl)
        refine L21 _ ?_ 4096 0 1 now_16 _ _ _ w (lv_sub hl [0, 1, 2, 3, 4, 5, 6] rfl) hf
        clear hf
        intro v18 v19 now_20 H locs ls w hl hf
        refine lv_lload C.1 C.2.1 (dk_at dkX6_findOdds 77 rfl) (lv_at hl 0 rfl) ?_
        refine lv_lconst (v := 0) C.1 C.2.1 (dk_at dkX6_findOdds 78 rfl) (by decide) ?_
        refine W.lcmp C.1 C.2.1 (dk_at dkX6_findOdds 79 rfl) ?_
        refine lv_if_le (tgt := 200) C.1 C.2.1 (dk_at dkX6_findOdds 80 rfl) (by decide) (fun c47 => ?_) (fun c47 => ?_)
        · have hf := (if_pos c47).symm.trans hf
          obtain ⟨x48, ex48⟩ : ∃ z : Int32, z = v7 + 1 := ⟨_, rfl⟩
          have hf := nm_at ex48 hf
          refine lv_iinc (v := x48) (lv' := [(4, .int x48), (5, .long v19), (0, .ref (a_m 0)), (1, .int p1), (2, .int p2), (3, .int p3)]) C.1 C.2.1 (dk_at dkX6_findOdds 110 rfl) hl (k := 1) rfl (by rw [ex48]; rfl) (by decide) rfl (fun ls hl => ?_)
          refine lv_goto (tgt := 46) C.1 C.2.1 (dk_at dkX6_findOdds 111 rfl) (by decide) ?_
          exact ih x48 now_20 landed_9 landedIn_10 stepped_11 landSum_12 heardSum_13 _ _ _ w (lv_sub hl [0, 2, 3, 4, 5] rfl) hf
        · have hf := (if_neg c47).symm.trans hf
          refine lv_aload_n C.1 C.2.1 (dk_at dkX6_findOdds 81 rfl) rfl (lv_at hl 2 rfl) ?_
          obtain ⟨now_49, landed_50, landedIn_51, stepped_52, hq53, hf⟩ := bd4_at hf
          refine r_rwv (As := []) (rest := []) (wr := []) (ws' := wM g a_m st now_49 isKept hearers draft dHearers dWalls toldWinds tape taped pos frm sort value fault wrongAt landed_50 landedIn_51 stepped_52 isThere isAt isNext landSum_12 heardSum_13 allWays_2 ways drawn lanes sizes cells torn before) C (kX6_dayGoes l g _ a_m st now_20 isKept hearers draft dHearers dWalls toldWinds tape taped pos frm sort value fault wrongAt landed_9 landedIn_10 stepped_11 isThere isAt isNext landSum_12 heardSum_13 allWays_2 ways drawn lanes sizes cells torn before now_49 landed_50 landedIn_51 stepped_52 hq53) (cwV0 C (inr25 _ (List.mem_of_getElem? (i := 9) rfl)) mwX6_dayGoes hdX6_dayGoes ⟨Nat.le_of_ble_eq_true rfl, Nat.le_of_ble_eq_true rfl⟩) hK w hA [0, 1, 2, 3, 4, 5, 6, 7, 8, 9, 10, 11, 12, 13, 14, 15, 16, 17] [] [0, 1, 2, 3, 4, 5, 6, 7, 8, 9, 10, 11, 12, 13, 14, 15, 16, 17] (by decide) rfl rfl (by decide) (by decide) rfl (by decide) rfl rfl rfl hl.1 rfl (Nat.le_of_ble_eq_true rfl) ⟨Nat.zero_le _, Nat.zero_le _⟩ (dk_at dkX6_findOdds 82 rfl) (fun H locs w => ?_)
          refine lv_aload_n C.1 C.2.1 (dk_at dkX6_findOdds 83 rfl) rfl (lv_at hl 2 rfl) ?_
          refine lv_dup C.1 C.2.1 (dk_at dkX6_findOdds 84 rfl) rfl ?_
          refine r_get (v := .long landSum_12) C hK w.1 (fun w h => List.mem_cons_of_mem _ (inlX6 w h)) 0 rfl rfl 22 (by decide) (List.mem_cons_of_mem _ (inr34 _ (List.mem_of_getElem? (i := 5) rfl))) rfl (dk_at dkX6_findOdds 85 rfl) ?_
          refine lv_aload_n C.1 C.2.1 (dk_at dkX6_findOdds 86 rfl) rfl (lv_at hl 2 rfl) ?_
          refine lv_iload_n C.1 C.2.1 (dk_at dkX6_findOdds 87 rfl) rfl (lv_at hl 5 rfl) ?_
          obtain ⟨r54, hq55, hf⟩ := bd1_at hf
          refine r_roV (As := [.int p3]) (rest := [.long landSum_12, .ref (a_m 0)]) C (kX6_landIn l g a_m st now_49 isKept hearers draft dHearers dWalls toldWinds tape taped pos frm sort value fault wrongAt landed_50 landedIn_51 stepped_52 isThere isAt isNext landSum_12 heardSum_13 allWays_2 ways drawn lanes sizes cells torn before p3 r54 hq55) (cwV0 C (inr26 _ (List.mem_of_getElem? (i := 9) rfl)) mwX6_landIn hdX6_landIn ⟨Nat.le_of_ble_eq_true rfl, Nat.le_of_ble_eq_true rfl⟩) hK w.1 rfl rfl rfl hl.1 rfl (Nat.le_of_ble_eq_true rfl) ⟨Nat.zero_le _, Nat.zero_le _⟩ (dk_at dkX6_findOdds 88 rfl) ?_
          refine lv_iload_n C.1 C.2.1 (dk_at dkX6_findOdds 89 rfl) rfl (lv_at hl 4 rfl) ?_
          refine lv_ishr C.1 C.2.1 (dk_at dkX6_findOdds 90 rfl) ?_
          refine lv_topi (fun x56 ex56 => ?_)
          have hf := nm_at ex56 hf
          refine lv_iconst (v := 1) C.1 C.2.1 (dk_at dkX6_findOdds 91 rfl) (by decide) ?_
          refine lv_iand C.1 C.2.1 (dk_at dkX6_findOdds 92 rfl) ?_
          refine lv_topi (fun x57 ex57 => ?_)
          have hf := nm_at ex57 hf
          refine lv_iconst (v := 1) C.1 C.2.1 (dk_at dkX6_findOdds 93 rfl) (by decide) ?_
          obtain ⟨y58, hq59, hf⟩ := bd1_at hf
          have J60 : ∀ (H : Heap) (locs : List Loc) (ls : Array Slot), Wd g A Z.heap (wM g a_m st now_49 isKept hearers draft dHearers dWalls toldWinds tape taped pos frm sort value fault wrongAt landed_50 landedIn_51 stepped_52 isThere isAt isNext landSum_12 heardSum_13 allWays_2 ways drawn lanes sizes cells torn before) H locs → lv_has ls 9 [(5, .long v19), (4, .int v7), (0, .ref (a_m 0)), (1, .int p1), (2, .int p2), (3, .int p3)] → W P l E rmX6_findOdds Z Mi AR BE ME CO H locs 0 0 Q (F0 Mi 179 ls [.long y58, .long landSum_12, .ref (a_m 0)]) := by
            intro H locs ls w hl
            refine lv_ladd C.1 C.2.1 (dk_at dkX6_findOdds 98 rfl) ?_
            refine lv_topl (fun x61 ex61 => ?_)
            have hf := nm_at ex61 hf
            refine r_put (v := .long x61) C hK w (fun w h => List.mem_cons_of_mem _ (inlX6 w h)) tyX6 tyX6_ok nmX6 0 rfl rfl 22 (by decide) (List.mem_cons_of_mem _ (inr34 _ (List.mem_of_getElem? (i := 5) rfl))) rfl rfl rfl (Nat.le_of_ble_eq_true rfl) (dk_at dkX6_findOdds 99 rfl) (fun H locs w => ?_)
            have w : Wd g A Z.heap (wM g a_m st now_49 isKept hearers draft dHearers dWalls toldWinds tape taped pos frm sort value fault wrongAt landed_50 landedIn_51 stepped_52 isThere isAt isNext x61 heardSum_13 allWays_2 ways drawn lanes sizes cells torn before) H locs := w
            refine lv_aload_n C.1 C.2.1 (dk_at dkX6_findOdds 100 rfl) rfl (lv_at hl 2 rfl) ?_
            refine lv_dup C.1 C.2.1 (dk_at dkX6_findOdds 101 rfl) rfl ?_
            refine r_get (v := .long heardSum_13) C hK w.1 (fun w h => List.mem_cons_of_mem _ (inlX6 w h)) 0 rfl rfl 23 (by decide) (List.mem_cons_of_mem _ (inr34 _ (List.mem_of_getElem? (i := 11) rfl))) rfl (dk_at dkX6_findOdds 102 rfl) ?_
            refine lv_lload C.1 C.2.1 (dk_at dkX6_findOdds 103 rfl) (lv_at hl 0 rfl) ?_
            refine lv_aload_n C.1 C.2.1 (dk_at dkX6_findOdds 104 rfl) rfl (lv_at hl 2 rfl) ?_
            obtain ⟨r62, hq63, hf⟩ := bd1_at hf
            refine r_roV (As := []) (rest := [.long v19, .long heardSum_13, .ref (a_m 0)]) C (kX6_heard l g a_m st now_49 isKept hearers draft dHearers dWalls toldWinds tape taped pos frm sort value fault wrongAt landed_50 landedIn_51 stepped_52 isThere isAt isNext x61 heardSum_13 allWays_2 ways drawn lanes sizes cells torn before r62 hq63) (cwV0 C (inr28 _ (List.mem_of_getElem? (i := 2) rfl)) mwX6_heard hdX6_heard ⟨Nat.le_of_ble_eq_true rfl, Nat.le_of_ble_eq_true rfl⟩) hK w.1 rfl rfl rfl hl.1 rfl (Nat.le_of_ble_eq_true rfl) ⟨Nat.zero_le _, Nat.zero_le _⟩ (dk_at dkX6_findOdds 105 rfl) ?_
            refine lv_i2l C.1 C.2.1 (dk_at dkX6_findOdds 106 rfl) rfl ?_
            refine lv_lmul C.1 C.2.1 (dk_at dkX6_findOdds 107 rfl) ?_
            refine lv_ladd C.1 C.2.1 (dk_at dkX6_findOdds 108 rfl) ?_
            refine lv_topl (fun x64 ex64 => ?_)
            have hf := nm_at ex64 hf
            refine r_put (v := .long x64) C hK w (fun w h => List.mem_cons_of_mem _ (inlX6 w h)) tyX6 tyX6_ok nmX6 0 rfl rfl 23 (by decide) (List.mem_cons_of_mem _ (inr34 _ (List.mem_of_getElem? (i := 11) rfl))) rfl rfl rfl (Nat.le_of_ble_eq_true rfl) (dk_at dkX6_findOdds 109 rfl) (fun H locs w => ?_)
            have w : Wd g A Z.heap (wM g a_m st now_49 isKept hearers draft dHearers dWalls toldWinds tape taped pos frm sort value fault wrongAt landed_50 landedIn_51 stepped_52 isThere isAt isNext x61 x64 allWays_2 ways drawn lanes sizes cells torn before) H locs := w
            obtain ⟨x65, ex65⟩ : ∃ z : Int32, z = v7 + 1 := ⟨_, rfl⟩
            have hf := nm_at ex65 hf
            refine lv_iinc (v := x65) (lv' := [(4, .int x65), (5, .long v19), (0, .ref (a_m 0)), (1, .int p1), (2, .int p2), (3, .int p3)]) C.1 C.2.1 (dk_at dkX6_findOdds 110 rfl) hl (k := 1) rfl (by rw [ex65]; rfl) (by decide) rfl (fun ls hl => ?_)
            refine lv_goto (tgt := 46) C.1 C.2.1 (dk_at dkX6_findOdds 111 rfl) (by decide) ?_
            exact ih x65 now_49 landed_50 landedIn_51 stepped_52 x61 x64 _ _ _ w (lv_sub hl [0, 2, 3, 4, 5] rfl) hf
          clear hf
          have hf := hq59
          refine lv_icmp_ne (tgt := 178) C.1 C.2.1 (dk_at dkX6_findOdds 94 rfl) (by decide) (fun c66 => ?_) (fun c66 => ?_)
          · have hf := (if_neg c66).symm.trans hf
            refine lv_lconst (v := 0) C.1 C.2.1 (dk_at dkX6_findOdds 97 rfl) (by decide) ?_
            cases hf
            exact J60 _ _ _ w (lv_sub hl [0, 1, 2, 3, 4, 5] rfl)
          · have hf := (if_pos c66).symm.trans hf
            refine lv_lload C.1 C.2.1 (dk_at dkX6_findOdds 95 rfl) (lv_at hl 0 rfl) ?_
            refine lv_goto (tgt := 179) C.1 C.2.1 (dk_at dkX6_findOdds 96 rfl) (by decide) ?_
            cases hf
            exact J60 _ _ _ w (lv_sub hl [0, 1, 2, 3, 4, 5] rfl)
  refine L14 _ ?_ 4096 0 now landed landedIn stepped 0 0 _ _ _ w (lv_sub hl [0, 1, 2, 3, 4] rfl) hf
  clear hf
  intro v7 now_8 landed_9 landedIn_10 stepped_11 landSum_12 heardSum_13 H locs ls w hl hf
  cases hf
  exact fin _ _ _ _ (dk_at dkX6_findOdds 112 rfl) w
-- X6.luck
abbrev tbX6_luck : List (Nat × Instr × Nat) := [(0, .iload_n 1, 1), (1, .i2l, 1), (2, .lconst 0, 1), (3, .ldc2_w 285, 3), (6, .invokestatic 83, 3), (9, .ifCond .eq 26, 3), (12, .aload_n 0, 1), (13, .iload_n 2, 1), (14, .invokevirtual 214, 3), (17, .ifCond .eq 18, 3), (20, .iload_n 3, 1), (21, .invokestatic 140, 3), (24, .ifCond .eq 11, 3), (27, .iload 4, 2), (29, .invokestatic 243, 3), (32, .ifCond .ne 7, 3), (35, .ldc2_w 287, 3), (38, .lreturn, 1), (39, .aload_n 0, 1), (40, .iload_n 1, 1), (41, .iload_n 2, 1), (42, .iload_n 3, 1), (43, .invokevirtual 289, 3), (46, .aload_n 0, 1), (47, .getfield 275, 3), (50, .aload_n 0, 1), (51, .getfield 282, 3), (54, .iload 4, 2), (56, .invokestatic 292, 3), (59, .lreturn, 1)]
theorem dkX6_luck : dk cX6_luck tbX6_luck := dk_of (by decide +kernel)
abbrev cdX6_luck : Cond := Cond.code yX6_luck cX6_luck 5 (some .long)
abbrev rmX6_luck : Room := { frames := 5, cells := 0, slots := 0, locals := 125 }
theorem mwX6_luck : Cond.instanceMethod yX6_luck ∈ wsL_law ∧ Cond.selects RX6 yX6_luck yX6_luck ∈ wsL_law ∧ Cond.initialized RX6 ∈ wsL_law ∧ cdX6_luck ∈ wsL_law := ⟨inr34 _ (List.mem_of_getElem? (i := 0) rfl), inr34 _ (List.mem_of_getElem? (i := 1) rfl), inr1 _ (List.mem_of_getElem? (i := 5) rfl), inr34 _ (List.mem_of_getElem? (i := 2) rfl)⟩
theorem hdX6_luck : yX6_luck.cls = RX6 ∧ yX6_luck.cls ≠ "java/lang/invoke/MethodHandle" ∧ yX6_luck.cls ≠ "java/lang/invoke/VarHandle" ∧ (parseMethodDescriptor yX6_luck.desc).map (fun d => d.parameters.length) = some 4 := by decide +kernel
set_option maxHeartbeats 4000000 in
set_option maxRecDepth 100000 in
theorem kX6_luck (l : Launch) (g : Gx) (sz : Nat) (a_m : Nat → Nat) (st : AI) (now : AI) (isKept : AI) (hearers : Int32) (draft : AI) (dHearers : Int32) (dWalls : Int32) (toldWinds : Int32) (tape : AI) (taped : Int32) (pos : Int32) (frm : Int32) (sort : Int32) (value : Int32) (fault : Int32) (wrongAt : Int32) (landed : AI) (landedIn : AI) (stepped : AI) (isThere : AI) (isAt : AI) (isNext : AI) (landSum : Int64) (heardSum : Int64) (allWays : Int64) (ways : AI) (drawn : AI) (lanes : AI) (sizes : AI) (cells : AI) (torn : Int32) (before : AI) (p1 : Int32) (p2 : Int32) (p3 : Int32) (p4 : Int32) (res : Int64) (now_o : AI) (landed_o : AI) (landedIn_o : AI) (stepped_o : AI) (landSum_o : Int64) (heardSum_o : Int64) (allWays_o : Int64) (hf : fX6_luck p1 p2 p3 p4 st now hearers landed landedIn stepped landSum heardSum allWays = some (res, now_o, landed_o, landedIn_o, stepped_o, landSum_o, heardSum_o, allWays_o)) : Met l yX6_luck (cdX6_luck :: wsL_law) rmX6_luck (va_Pc [.ref (a_m 0), .int p1, .int p2, .int p3, .int p4] (RWp g sz (wM g a_m st now isKept hearers draft dHearers dWalls toldWinds tape taped pos frm sort value fault wrongAt landed landedIn stepped isThere isAt isNext landSum heardSum allWays ways drawn lanes sizes cells torn before))) (va_Ql (fun x (_ : Unit) => x = res) (fun _ => RWq g (va_A (wM g a_m st now isKept hearers draft dHearers dWalls toldWinds tape taped pos frm sort value fault wrongAt landed landedIn stepped isThere isAt isNext landSum heardSum allWays ways drawn lanes sizes cells torn before) sz) (wM g a_m st now_o isKept hearers draft dHearers dWalls toldWinds tape taped pos frm sort value fault wrongAt landed_o landedIn_o stepped_o isThere isAt isNext landSum_o heardSum_o allWays_o ways drawn lanes sizes cells torn before)) (va_A (wM g a_m st now isKept hearers draft dHearers dWalls toldWinds tape taped pos frm sort value fault wrongAt landed landedIn stepped isThere isAt isNext landSum heardSum allWays ways drawn lanes sizes cells torn before) sz)) 0 0 (va_A (wM g a_m st now isKept hearers draft dHearers dWalls toldWinds tape taped pos frm sort value fault wrongAt landed landedIn stepped isThere isAt isNext landSum heardSum allWays ways drawn lanes sizes cells torn before) sz) := by
  refine Met_rwl (cc := cX6_luck) (maxL := 5) (by decide) rfl (Nat.le_of_ble_eq_true rfl) ?_
  intro P E Z Mi AR BE ME CO A Q C hK hA fin w ls hl
  have hl : lv_has ls 5 [(0, .ref (a_m 0)), (1, .int p1), (2, .int p2), (3, .int p3), (4, .int p4)] := hl
  unfold fX6_luck at hf
  refine lv_iload_n C.1 C.2.1 (dk_at dkX6_luck 0 rfl) rfl (lv_at hl 1 rfl) ?_
  refine lv_i2l C.1 C.2.1 (dk_at dkX6_luck 1 rfl) rfl ?_
  refine lv_topl (fun x1 ex1 => ?_)
  have hf := nm_at ex1 hf
  refine lv_lconst (v := 0) C.1 C.2.1 (dk_at dkX6_luck 2 rfl) (by decide) ?_
  refine lv_ldc2 (v := 10) C.1 C.2.1 C.2.2.2.1 (C.2.2.2.2 _ (List.mem_cons_of_mem _ (inr34 _ (List.mem_of_getElem? (i := 3) rfl)))) (dk_at dkX6_luck 3 rfl) ?_
  obtain ⟨r2, hq3, hf⟩ := bd1_at hf
  refine r_st (As := [.long x1, .long 0, .long 10]) (rest := []) C (kX6_in l x1 0 10 r2 hq3) (cwS0 C (inr5 _ (List.mem_of_getElem? (i := 21) rfl)) mwX6_in hdX6_in ⟨Nat.le_of_ble_eq_true rfl, Nat.le_of_ble_eq_true rfl⟩) rfl hl.1 rfl (Nat.le_of_ble_eq_true rfl) ⟨Nat.zero_le _, Nat.zero_le _⟩ (dk_at dkX6_luck 4 rfl) ?_
  refine lv_if_eq (tgt := 35) C.1 C.2.1 (dk_at dkX6_luck 5 rfl) (by decide) (fun c4 => ?_) (fun c4 => ?_)
  · have hf := (if_pos c4).symm.trans hf
    refine lv_ldc2 (v := (-1)) C.1 C.2.1 C.2.2.2.1 (C.2.2.2.2 _ (List.mem_cons_of_mem _ (inr34 _ (List.mem_of_getElem? (i := 4) rfl)))) (dk_at dkX6_luck 16 rfl) ?_
    cases hf
    exact fin _ _ _ _ _ (dk_at dkX6_luck 17 rfl) rfl w
  · have hf := (if_neg c4).symm.trans hf
    refine lv_aload_n C.1 C.2.1 (dk_at dkX6_luck 6 rfl) rfl (lv_at hl 0 rfl) ?_
    refine lv_iload_n C.1 C.2.1 (dk_at dkX6_luck 7 rfl) rfl (lv_at hl 2 rfl) ?_
    obtain ⟨r5, hq6, hf⟩ := bd1_at hf
    refine r_roV (As := [.int p2]) (rest := []) C (kX6_isSaying l g a_m st now isKept hearers draft dHearers dWalls toldWinds tape taped pos frm sort value fault wrongAt landed landedIn stepped isThere isAt isNext landSum heardSum allWays ways drawn lanes sizes cells torn before p2 r5 hq6) (cwV0 C (inr18 _ (List.mem_of_getElem? (i := 10) rfl)) mwX6_isSaying hdX6_isSaying ⟨Nat.le_of_ble_eq_true rfl, Nat.le_of_ble_eq_true rfl⟩) hK w.1 rfl rfl rfl hl.1 rfl (Nat.le_of_ble_eq_true rfl) ⟨Nat.zero_le _, Nat.zero_le _⟩ (dk_at dkX6_luck 8 rfl) ?_
    refine lv_if_eq (tgt := 35) C.1 C.2.1 (dk_at dkX6_luck 9 rfl) (by decide) (fun c7 => ?_) (fun c7 => ?_)
    · have hf := (if_pos c7).symm.trans hf
      refine lv_ldc2 (v := (-1)) C.1 C.2.1 C.2.2.2.1 (C.2.2.2.2 _ (List.mem_cons_of_mem _ (inr34 _ (List.mem_of_getElem? (i := 4) rfl)))) (dk_at dkX6_luck 16 rfl) ?_
      cases hf
      exact fin _ _ _ _ _ (dk_at dkX6_luck 17 rfl) rfl w
    · have hf := (if_neg c7).symm.trans hf
      refine lv_iload_n C.1 C.2.1 (dk_at dkX6_luck 10 rfl) rfl (lv_at hl 3 rfl) ?_
      obtain ⟨r8, hq9, hf⟩ := bd1_at hf
      refine r_st (As := [.int p3]) (rest := []) C (kX6_isCell l p3 r8 hq9) (cwS0 C (inr15 _ (List.mem_of_getElem? (i := 8) rfl)) mwX6_isCell hdX6_isCell ⟨Nat.le_of_ble_eq_true rfl, Nat.le_of_ble_eq_true rfl⟩) rfl hl.1 rfl (Nat.le_of_ble_eq_true rfl) ⟨Nat.zero_le _, Nat.zero_le _⟩ (dk_at dkX6_luck 11 rfl) ?_
      refine lv_if_eq (tgt := 35) C.1 C.2.1 (dk_at dkX6_luck 12 rfl) (by decide) (fun c10 => ?_) (fun c10 => ?_)
      · have hf := (if_pos c10).symm.trans hf
        refine lv_ldc2 (v := (-1)) C.1 C.2.1 C.2.2.2.1 (C.2.2.2.2 _ (List.mem_cons_of_mem _ (inr34 _ (List.mem_of_getElem? (i := 4) rfl)))) (dk_at dkX6_luck 16 rfl) ?_
        cases hf
        exact fin _ _ _ _ _ (dk_at dkX6_luck 17 rfl) rfl w
      · have hf := (if_neg c10).symm.trans hf
        refine lv_iload C.1 C.2.1 (dk_at dkX6_luck 13 rfl) (lv_at hl 4 rfl) ?_
        obtain ⟨r11, hq12, hf⟩ := bd1_at hf
        refine r_st (As := [.int p4]) (rest := []) C (kX6_isPart l p4 r11 hq12) (cwS0 C (inr26 _ (List.mem_of_getElem? (i := 22) rfl)) mwX6_isPart hdX6_isPart ⟨Nat.le_of_ble_eq_true rfl, Nat.le_of_ble_eq_true rfl⟩) rfl hl.1 rfl (Nat.le_of_ble_eq_true rfl) ⟨Nat.zero_le _, Nat.zero_le _⟩ (dk_at dkX6_luck 14 rfl) ?_
        refine lv_if_ne (tgt := 39) C.1 C.2.1 (dk_at dkX6_luck 15 rfl) (by decide) (fun c13 => ?_) (fun c13 => ?_)
        · have hf := (if_neg c13).symm.trans hf
          refine lv_aload_n C.1 C.2.1 (dk_at dkX6_luck 18 rfl) rfl (lv_at hl 0 rfl) ?_
          refine lv_iload_n C.1 C.2.1 (dk_at dkX6_luck 19 rfl) rfl (lv_at hl 1 rfl) ?_
          refine lv_iload_n C.1 C.2.1 (dk_at dkX6_luck 20 rfl) rfl (lv_at hl 2 rfl) ?_
          refine lv_iload_n C.1 C.2.1 (dk_at dkX6_luck 21 rfl) rfl (lv_at hl 3 rfl) ?_
          obtain ⟨now_14, landed_15, landedIn_16, stepped_17, landSum_18, heardSum_19, allWays_20, hq21, hf⟩ := bd7_at hf
          refine r_rwv (As := [.int p1, .int p2, .int p3]) (rest := []) (wr := []) (ws' := wM g a_m st now_14 isKept hearers draft dHearers dWalls toldWinds tape taped pos frm sort value fault wrongAt landed_15 landedIn_16 stepped_17 isThere isAt isNext landSum_18 heardSum_19 allWays_20 ways drawn lanes sizes cells torn before) C (kX6_findOdds l g _ a_m st now isKept hearers draft dHearers dWalls toldWinds tape taped pos frm sort value fault wrongAt landed landedIn stepped isThere isAt isNext landSum heardSum allWays ways drawn lanes sizes cells torn before p1 p2 p3 now_14 landed_15 landedIn_16 stepped_17 landSum_18 heardSum_19 allWays_20 hq21) (cwV0 C (inr34 _ (List.mem_of_getElem? (i := 7) rfl)) mwX6_findOdds hdX6_findOdds ⟨Nat.le_of_ble_eq_true rfl, Nat.le_of_ble_eq_true rfl⟩) hK w hA [0, 1, 2, 3, 4, 5, 6, 7, 8, 9, 10, 11, 12, 13, 14, 15, 16, 17] [] [0, 1, 2, 3, 4, 5, 6, 7, 8, 9, 10, 11, 12, 13, 14, 15, 16, 17] (by decide) rfl rfl (by decide) (by decide) rfl (by decide) rfl rfl rfl hl.1 rfl (Nat.le_of_ble_eq_true rfl) ⟨Nat.zero_le _, Nat.zero_le _⟩ (dk_at dkX6_luck 22 rfl) (fun H locs w => ?_)
          refine lv_aload_n C.1 C.2.1 (dk_at dkX6_luck 23 rfl) rfl (lv_at hl 0 rfl) ?_
          refine r_get (v := .long landSum_18) C hK w.1 (fun w h => List.mem_cons_of_mem _ (inlX6 w h)) 0 rfl rfl 22 (by decide) (List.mem_cons_of_mem _ (inr34 _ (List.mem_of_getElem? (i := 5) rfl))) rfl (dk_at dkX6_luck 24 rfl) ?_
          refine lv_aload_n C.1 C.2.1 (dk_at dkX6_luck 25 rfl) rfl (lv_at hl 0 rfl) ?_
          refine r_get (v := .long allWays_20) C hK w.1 (fun w h => List.mem_cons_of_mem _ (inlX6 w h)) 0 rfl rfl 24 (by decide) (List.mem_cons_of_mem _ (inr34 _ (List.mem_of_getElem? (i := 6) rfl))) rfl (dk_at dkX6_luck 26 rfl) ?_
          refine lv_iload C.1 C.2.1 (dk_at dkX6_luck 27 rfl) (lv_at hl 4 rfl) ?_
          obtain ⟨r22, hq23, hf⟩ := bd1_at hf
          refine r_stl (As := [.long landSum_18, .long allWays_20, .int p4]) (rest := []) C (kX6_told l landSum_18 allWays_20 p4 r22 hq23) (cwS0 C (inr34 _ (List.mem_of_getElem? (i := 12) rfl)) mwX6_told hdX6_told ⟨Nat.le_of_ble_eq_true rfl, Nat.le_of_ble_eq_true rfl⟩) rfl hl.1 rfl (Nat.le_of_ble_eq_true rfl) ⟨Nat.zero_le _, Nat.zero_le _⟩ (dk_at dkX6_luck 28 rfl) ?_
          cases hf
          exact fin _ _ _ _ _ (dk_at dkX6_luck 29 rfl) rfl w
        · have hf := (if_pos c13).symm.trans hf
          refine lv_ldc2 (v := (-1)) C.1 C.2.1 C.2.2.2.1 (C.2.2.2.2 _ (List.mem_cons_of_mem _ (inr34 _ (List.mem_of_getElem? (i := 4) rfl)))) (dk_at dkX6_luck 16 rfl) ?_
          cases hf
          exact fin _ _ _ _ _ (dk_at dkX6_luck 17 rfl) rfl w
-- X6.mean
abbrev tbX6_mean : List (Nat × Instr × Nat) := [(0, .iload_n 1, 1), (1, .i2l, 1), (2, .lconst 0, 1), (3, .ldc2_w 285, 3), (6, .invokestatic 83, 3), (9, .ifCond .eq 10, 3), (12, .iload_n 2, 1), (13, .invokestatic 243, 3), (16, .ifCond .ne 7, 3), (19, .ldc2_w 287, 3), (22, .lreturn, 1), (23, .aload_n 0, 1), (24, .iload_n 1, 1), (25, .iconst 0, 1), (26, .iconst 0, 1), (27, .invokevirtual 289, 3), (30, .aload_n 0, 1), (31, .getfield 279, 3), (34, .aload_n 0, 1), (35, .getfield 282, 3), (38, .iload_n 2, 1), (39, .invokestatic 292, 3), (42, .lreturn, 1)]
theorem dkX6_mean : dk cX6_mean tbX6_mean := dk_of (by decide +kernel)
abbrev cdX6_mean : Cond := Cond.code yX6_mean cX6_mean 3 (some .long)
abbrev rmX6_mean : Room := { frames := 5, cells := 0, slots := 0, locals := 125 }
theorem mwX6_mean : Cond.instanceMethod yX6_mean ∈ wsL_law ∧ Cond.selects RX6 yX6_mean yX6_mean ∈ wsL_law ∧ Cond.initialized RX6 ∈ wsL_law ∧ cdX6_mean ∈ wsL_law := ⟨inr34 _ (List.mem_of_getElem? (i := 23) rfl), inr35 _ (List.mem_of_getElem? (i := 0) rfl), inr1 _ (List.mem_of_getElem? (i := 5) rfl), inr35 _ (List.mem_of_getElem? (i := 1) rfl)⟩
theorem hdX6_mean : yX6_mean.cls = RX6 ∧ yX6_mean.cls ≠ "java/lang/invoke/MethodHandle" ∧ yX6_mean.cls ≠ "java/lang/invoke/VarHandle" ∧ (parseMethodDescriptor yX6_mean.desc).map (fun d => d.parameters.length) = some 2 := by decide +kernel
set_option maxHeartbeats 4000000 in
set_option maxRecDepth 100000 in
theorem kX6_mean (l : Launch) (g : Gx) (sz : Nat) (a_m : Nat → Nat) (st : AI) (now : AI) (isKept : AI) (hearers : Int32) (draft : AI) (dHearers : Int32) (dWalls : Int32) (toldWinds : Int32) (tape : AI) (taped : Int32) (pos : Int32) (frm : Int32) (sort : Int32) (value : Int32) (fault : Int32) (wrongAt : Int32) (landed : AI) (landedIn : AI) (stepped : AI) (isThere : AI) (isAt : AI) (isNext : AI) (landSum : Int64) (heardSum : Int64) (allWays : Int64) (ways : AI) (drawn : AI) (lanes : AI) (sizes : AI) (cells : AI) (torn : Int32) (before : AI) (p1 : Int32) (p2 : Int32) (res : Int64) (now_o : AI) (landed_o : AI) (landedIn_o : AI) (stepped_o : AI) (landSum_o : Int64) (heardSum_o : Int64) (allWays_o : Int64) (hf : fX6_mean p1 p2 st now hearers landed landedIn stepped landSum heardSum allWays = some (res, now_o, landed_o, landedIn_o, stepped_o, landSum_o, heardSum_o, allWays_o)) : Met l yX6_mean (cdX6_mean :: wsL_law) rmX6_mean (va_Pc [.ref (a_m 0), .int p1, .int p2] (RWp g sz (wM g a_m st now isKept hearers draft dHearers dWalls toldWinds tape taped pos frm sort value fault wrongAt landed landedIn stepped isThere isAt isNext landSum heardSum allWays ways drawn lanes sizes cells torn before))) (va_Ql (fun x (_ : Unit) => x = res) (fun _ => RWq g (va_A (wM g a_m st now isKept hearers draft dHearers dWalls toldWinds tape taped pos frm sort value fault wrongAt landed landedIn stepped isThere isAt isNext landSum heardSum allWays ways drawn lanes sizes cells torn before) sz) (wM g a_m st now_o isKept hearers draft dHearers dWalls toldWinds tape taped pos frm sort value fault wrongAt landed_o landedIn_o stepped_o isThere isAt isNext landSum_o heardSum_o allWays_o ways drawn lanes sizes cells torn before)) (va_A (wM g a_m st now isKept hearers draft dHearers dWalls toldWinds tape taped pos frm sort value fault wrongAt landed landedIn stepped isThere isAt isNext landSum heardSum allWays ways drawn lanes sizes cells torn before) sz)) 0 0 (va_A (wM g a_m st now isKept hearers draft dHearers dWalls toldWinds tape taped pos frm sort value fault wrongAt landed landedIn stepped isThere isAt isNext landSum heardSum allWays ways drawn lanes sizes cells torn before) sz) := by
  refine Met_rwl (cc := cX6_mean) (maxL := 3) (by decide) rfl (Nat.le_of_ble_eq_true rfl) ?_
  intro P E Z Mi AR BE ME CO A Q C hK hA fin w ls hl
  have hl : lv_has ls 3 [(0, .ref (a_m 0)), (1, .int p1), (2, .int p2)] := hl
  unfold fX6_mean at hf
  refine lv_iload_n C.1 C.2.1 (dk_at dkX6_mean 0 rfl) rfl (lv_at hl 1 rfl) ?_
  refine lv_i2l C.1 C.2.1 (dk_at dkX6_mean 1 rfl) rfl ?_
  refine lv_topl (fun x1 ex1 => ?_)
  have hf := nm_at ex1 hf
  refine lv_lconst (v := 0) C.1 C.2.1 (dk_at dkX6_mean 2 rfl) (by decide) ?_
  refine lv_ldc2 (v := 10) C.1 C.2.1 C.2.2.2.1 (C.2.2.2.2 _ (List.mem_cons_of_mem _ (inr34 _ (List.mem_of_getElem? (i := 3) rfl)))) (dk_at dkX6_mean 3 rfl) ?_
  obtain ⟨r2, hq3, hf⟩ := bd1_at hf
  refine r_st (As := [.long x1, .long 0, .long 10]) (rest := []) C (kX6_in l x1 0 10 r2 hq3) (cwS0 C (inr5 _ (List.mem_of_getElem? (i := 21) rfl)) mwX6_in hdX6_in ⟨Nat.le_of_ble_eq_true rfl, Nat.le_of_ble_eq_true rfl⟩) rfl hl.1 rfl (Nat.le_of_ble_eq_true rfl) ⟨Nat.zero_le _, Nat.zero_le _⟩ (dk_at dkX6_mean 4 rfl) ?_
  refine lv_if_eq (tgt := 19) C.1 C.2.1 (dk_at dkX6_mean 5 rfl) (by decide) (fun c4 => ?_) (fun c4 => ?_)
  · have hf := (if_pos c4).symm.trans hf
    refine lv_ldc2 (v := (-1)) C.1 C.2.1 C.2.2.2.1 (C.2.2.2.2 _ (List.mem_cons_of_mem _ (inr34 _ (List.mem_of_getElem? (i := 4) rfl)))) (dk_at dkX6_mean 9 rfl) ?_
    cases hf
    exact fin _ _ _ _ _ (dk_at dkX6_mean 10 rfl) rfl w
  · have hf := (if_neg c4).symm.trans hf
    refine lv_iload_n C.1 C.2.1 (dk_at dkX6_mean 6 rfl) rfl (lv_at hl 2 rfl) ?_
    obtain ⟨r5, hq6, hf⟩ := bd1_at hf
    refine r_st (As := [.int p2]) (rest := []) C (kX6_isPart l p2 r5 hq6) (cwS0 C (inr26 _ (List.mem_of_getElem? (i := 22) rfl)) mwX6_isPart hdX6_isPart ⟨Nat.le_of_ble_eq_true rfl, Nat.le_of_ble_eq_true rfl⟩) rfl hl.1 rfl (Nat.le_of_ble_eq_true rfl) ⟨Nat.zero_le _, Nat.zero_le _⟩ (dk_at dkX6_mean 7 rfl) ?_
    refine lv_if_ne (tgt := 23) C.1 C.2.1 (dk_at dkX6_mean 8 rfl) (by decide) (fun c7 => ?_) (fun c7 => ?_)
    · have hf := (if_neg c7).symm.trans hf
      refine lv_aload_n C.1 C.2.1 (dk_at dkX6_mean 11 rfl) rfl (lv_at hl 0 rfl) ?_
      refine lv_iload_n C.1 C.2.1 (dk_at dkX6_mean 12 rfl) rfl (lv_at hl 1 rfl) ?_
      refine lv_iconst (v := 0) C.1 C.2.1 (dk_at dkX6_mean 13 rfl) (by decide) ?_
      refine lv_iconst (v := 0) C.1 C.2.1 (dk_at dkX6_mean 14 rfl) (by decide) ?_
      obtain ⟨now_8, landed_9, landedIn_10, stepped_11, landSum_12, heardSum_13, allWays_14, hq15, hf⟩ := bd7_at hf
      refine r_rwv (As := [.int p1, .int 0, .int 0]) (rest := []) (wr := []) (ws' := wM g a_m st now_8 isKept hearers draft dHearers dWalls toldWinds tape taped pos frm sort value fault wrongAt landed_9 landedIn_10 stepped_11 isThere isAt isNext landSum_12 heardSum_13 allWays_14 ways drawn lanes sizes cells torn before) C (kX6_findOdds l g _ a_m st now isKept hearers draft dHearers dWalls toldWinds tape taped pos frm sort value fault wrongAt landed landedIn stepped isThere isAt isNext landSum heardSum allWays ways drawn lanes sizes cells torn before p1 0 0 now_8 landed_9 landedIn_10 stepped_11 landSum_12 heardSum_13 allWays_14 hq15) (cwV0 C (inr34 _ (List.mem_of_getElem? (i := 7) rfl)) mwX6_findOdds hdX6_findOdds ⟨Nat.le_of_ble_eq_true rfl, Nat.le_of_ble_eq_true rfl⟩) hK w hA [0, 1, 2, 3, 4, 5, 6, 7, 8, 9, 10, 11, 12, 13, 14, 15, 16, 17] [] [0, 1, 2, 3, 4, 5, 6, 7, 8, 9, 10, 11, 12, 13, 14, 15, 16, 17] (by decide) rfl rfl (by decide) (by decide) rfl (by decide) rfl rfl rfl hl.1 rfl (Nat.le_of_ble_eq_true rfl) ⟨Nat.zero_le _, Nat.zero_le _⟩ (dk_at dkX6_mean 15 rfl) (fun H locs w => ?_)
      refine lv_aload_n C.1 C.2.1 (dk_at dkX6_mean 16 rfl) rfl (lv_at hl 0 rfl) ?_
      refine r_get (v := .long heardSum_13) C hK w.1 (fun w h => List.mem_cons_of_mem _ (inlX6 w h)) 0 rfl rfl 23 (by decide) (List.mem_cons_of_mem _ (inr34 _ (List.mem_of_getElem? (i := 11) rfl))) rfl (dk_at dkX6_mean 17 rfl) ?_
      refine lv_aload_n C.1 C.2.1 (dk_at dkX6_mean 18 rfl) rfl (lv_at hl 0 rfl) ?_
      refine r_get (v := .long allWays_14) C hK w.1 (fun w h => List.mem_cons_of_mem _ (inlX6 w h)) 0 rfl rfl 24 (by decide) (List.mem_cons_of_mem _ (inr34 _ (List.mem_of_getElem? (i := 6) rfl))) rfl (dk_at dkX6_mean 19 rfl) ?_
      refine lv_iload_n C.1 C.2.1 (dk_at dkX6_mean 20 rfl) rfl (lv_at hl 2 rfl) ?_
      obtain ⟨r16, hq17, hf⟩ := bd1_at hf
      refine r_stl (As := [.long heardSum_13, .long allWays_14, .int p2]) (rest := []) C (kX6_told l heardSum_13 allWays_14 p2 r16 hq17) (cwS0 C (inr34 _ (List.mem_of_getElem? (i := 12) rfl)) mwX6_told hdX6_told ⟨Nat.le_of_ble_eq_true rfl, Nat.le_of_ble_eq_true rfl⟩) rfl hl.1 rfl (Nat.le_of_ble_eq_true rfl) ⟨Nat.zero_le _, Nat.zero_le _⟩ (dk_at dkX6_mean 21 rfl) ?_
      cases hf
      exact fin _ _ _ _ _ (dk_at dkX6_mean 22 rfl) rfl w
    · have hf := (if_pos c7).symm.trans hf
      refine lv_ldc2 (v := (-1)) C.1 C.2.1 C.2.2.2.1 (C.2.2.2.2 _ (List.mem_cons_of_mem _ (inr34 _ (List.mem_of_getElem? (i := 4) rfl)))) (dk_at dkX6_mean 9 rfl) ?_
      cases hf
      exact fin _ _ _ _ _ (dk_at dkX6_mean 10 rfl) rfl w
-- X6.see
abbrev tbX6_see : List (Nat × Instr × Nat) := [(0, .aload_n 0, 1), (1, .iload_n 1, 1), (2, .invokevirtual 214, 3), (5, .ifCond .eq 10, 3), (8, .iload_n 2, 1), (9, .invokestatic 140, 3), (12, .ifCond .ne 5, 3), (15, .iconst (-1), 1), (16, .ireturn, 1), (17, .aload_n 0, 1), (18, .getfield 7, 3), (21, .bipush 48, 2), (23, .iaload, 1), (24, .bipush 6, 2), (26, .if_icmp .ne 6, 3), (29, .bipush (-3), 2), (31, .ireturn, 1), (32, .bipush 49, 2), (34, .iconst 2, 1), (35, .aload_n 0, 1), (36, .getfield 7, 3), (39, .bipush 48, 2), (41, .iaload, 1), (42, .imul, 1), (43, .iadd, 1), (44, .istore_n 3, 1), (45, .aload_n 0, 1), (46, .getfield 7, 3), (49, .iload_n 3, 1), (50, .iload_n 1, 1), (51, .iastore, 1), (52, .aload_n 0, 1), (53, .getfield 7, 3), (56, .iload_n 3, 1), (57, .iconst 1, 1), (58, .iadd, 1), (59, .iload_n 2, 1), (60, .iastore, 1), (61, .aload_n 0, 1), (62, .getfield 7, 3), (65, .bipush 48, 2), (67, .dup2, 1), (68, .iaload, 1), (69, .iconst 1, 1), (70, .iadd, 1), (71, .iastore, 1), (72, .aload_n 0, 1), (73, .getfield 7, 3), (76, .bipush 48, 2), (78, .iaload, 1), (79, .ireturn, 1)]
theorem dkX6_see : dk cX6_see tbX6_see := dk_of (by decide +kernel)
abbrev cdX6_see : Cond := Cond.code yX6_see cX6_see 4 (some .int)
abbrev rmX6_see : Room := { frames := 2, cells := 0, slots := 0, locals := 46 }
theorem mwX6_see : Cond.instanceMethod yX6_see ∈ wsL_law ∧ Cond.selects RX6 yX6_see yX6_see ∈ wsL_law ∧ Cond.initialized RX6 ∈ wsL_law ∧ cdX6_see ∈ wsL_law := ⟨inr35 _ (List.mem_of_getElem? (i := 10) rfl), inr35 _ (List.mem_of_getElem? (i := 11) rfl), inr1 _ (List.mem_of_getElem? (i := 5) rfl), inr35 _ (List.mem_of_getElem? (i := 12) rfl)⟩
theorem hdX6_see : yX6_see.cls = RX6 ∧ yX6_see.cls ≠ "java/lang/invoke/MethodHandle" ∧ yX6_see.cls ≠ "java/lang/invoke/VarHandle" ∧ (parseMethodDescriptor yX6_see.desc).map (fun d => d.parameters.length) = some 2 := by decide +kernel
set_option maxHeartbeats 4000000 in
set_option maxRecDepth 100000 in
theorem kX6_see (l : Launch) (g : Gx) (sz : Nat) (a_m : Nat → Nat) (st : AI) (now : AI) (isKept : AI) (hearers : Int32) (draft : AI) (dHearers : Int32) (dWalls : Int32) (toldWinds : Int32) (tape : AI) (taped : Int32) (pos : Int32) (frm : Int32) (sort : Int32) (value : Int32) (fault : Int32) (wrongAt : Int32) (landed : AI) (landedIn : AI) (stepped : AI) (isThere : AI) (isAt : AI) (isNext : AI) (landSum : Int64) (heardSum : Int64) (allWays : Int64) (ways : AI) (drawn : AI) (lanes : AI) (sizes : AI) (cells : AI) (torn : Int32) (before : AI) (p1 : Int32) (p2 : Int32) (res : Int32) (st_o : AI) (hf : fX6_see p1 p2 st = some (res, st_o)) : Met l yX6_see (cdX6_see :: wsL_law) rmX6_see (va_Pc [.ref (a_m 0), .int p1, .int p2] (RWp g sz (wM g a_m st now isKept hearers draft dHearers dWalls toldWinds tape taped pos frm sort value fault wrongAt landed landedIn stepped isThere isAt isNext landSum heardSum allWays ways drawn lanes sizes cells torn before))) (va_Qi (fun x (_ : Unit) => x = res) (fun _ => RWq g (va_A (wM g a_m st now isKept hearers draft dHearers dWalls toldWinds tape taped pos frm sort value fault wrongAt landed landedIn stepped isThere isAt isNext landSum heardSum allWays ways drawn lanes sizes cells torn before) sz) (wM g a_m st_o now isKept hearers draft dHearers dWalls toldWinds tape taped pos frm sort value fault wrongAt landed landedIn stepped isThere isAt isNext landSum heardSum allWays ways drawn lanes sizes cells torn before)) (va_A (wM g a_m st now isKept hearers draft dHearers dWalls toldWinds tape taped pos frm sort value fault wrongAt landed landedIn stepped isThere isAt isNext landSum heardSum allWays ways drawn lanes sizes cells torn before) sz)) 0 0 (va_A (wM g a_m st now isKept hearers draft dHearers dWalls toldWinds tape taped pos frm sort value fault wrongAt landed landedIn stepped isThere isAt isNext landSum heardSum allWays ways drawn lanes sizes cells torn before) sz) := by
  refine Met_rwi (cc := cX6_see) (maxL := 4) (by decide) rfl (Nat.le_of_ble_eq_true rfl) ?_
  intro P E Z Mi AR BE ME CO A Q C hK hA fin w ls hl
  have hl : lv_has ls 4 [(0, .ref (a_m 0)), (1, .int p1), (2, .int p2)] := hl
  unfold fX6_see at hf
  refine lv_aload_n C.1 C.2.1 (dk_at dkX6_see 0 rfl) rfl (lv_at hl 0 rfl) ?_
  refine lv_iload_n C.1 C.2.1 (dk_at dkX6_see 1 rfl) rfl (lv_at hl 1 rfl) ?_
  obtain ⟨r1, hq2, hf⟩ := bd1_at hf
  refine r_roV (As := [.int p1]) (rest := []) C (kX6_isSaying l g a_m st now isKept hearers draft dHearers dWalls toldWinds tape taped pos frm sort value fault wrongAt landed landedIn stepped isThere isAt isNext landSum heardSum allWays ways drawn lanes sizes cells torn before p1 r1 hq2) (cwV0 C (inr18 _ (List.mem_of_getElem? (i := 10) rfl)) mwX6_isSaying hdX6_isSaying ⟨Nat.le_of_ble_eq_true rfl, Nat.le_of_ble_eq_true rfl⟩) hK w.1 rfl rfl rfl hl.1 rfl (Nat.le_of_ble_eq_true rfl) ⟨Nat.zero_le _, Nat.zero_le _⟩ (dk_at dkX6_see 2 rfl) ?_
  refine lv_if_eq (tgt := 15) C.1 C.2.1 (dk_at dkX6_see 3 rfl) (by decide) (fun c3 => ?_) (fun c3 => ?_)
  · have hf := (if_pos c3).symm.trans hf
    refine lv_iconst (v := (-1)) C.1 C.2.1 (dk_at dkX6_see 7 rfl) (by decide) ?_
    cases hf
    exact fin _ _ _ _ _ (dk_at dkX6_see 8 rfl) rfl w
  · have hf := (if_neg c3).symm.trans hf
    refine lv_iload_n C.1 C.2.1 (dk_at dkX6_see 4 rfl) rfl (lv_at hl 2 rfl) ?_
    obtain ⟨r4, hq5, hf⟩ := bd1_at hf
    refine r_st (As := [.int p2]) (rest := []) C (kX6_isCell l p2 r4 hq5) (cwS0 C (inr15 _ (List.mem_of_getElem? (i := 8) rfl)) mwX6_isCell hdX6_isCell ⟨Nat.le_of_ble_eq_true rfl, Nat.le_of_ble_eq_true rfl⟩) rfl hl.1 rfl (Nat.le_of_ble_eq_true rfl) ⟨Nat.zero_le _, Nat.zero_le _⟩ (dk_at dkX6_see 5 rfl) ?_
    refine lv_if_ne (tgt := 17) C.1 C.2.1 (dk_at dkX6_see 6 rfl) (by decide) (fun c6 => ?_) (fun c6 => ?_)
    · have hf := (if_neg c6).symm.trans hf
      refine lv_aload_n C.1 C.2.1 (dk_at dkX6_see 9 rfl) rfl (lv_at hl 0 rfl) ?_
      refine r_get (v := .ref (a_m 1)) C hK w.1 (fun w h => List.mem_cons_of_mem _ (inlX6 w h)) 0 rfl rfl 0 (by decide) (List.mem_cons_of_mem _ (inr4 _ (List.mem_of_getElem? (i := 4) rfl))) rfl (dk_at dkX6_see 10 rfl) ?_
      refine lv_bipush (v := 48) C.1 C.2.1 (dk_at dkX6_see 11 rfl) (by decide) ?_
      refine r_iald (k := 48) (f := st) C hK w.1 1 rfl (in_c (by decide)) (by decide) (dk_at dkX6_see 12 rfl) ?_
      refine lv_topi (fun x7 ex7 => ?_)
      have hf := nm_at ex7 hf
      refine lv_bipush (v := 6) C.1 C.2.1 (dk_at dkX6_see 13 rfl) (by decide) ?_
      refine lv_icmp_ne (tgt := 32) C.1 C.2.1 (dk_at dkX6_see 14 rfl) (by decide) (fun c8 => ?_) (fun c8 => ?_)
      · have hf := (if_neg c8).symm.trans hf
        refine lv_bipush (v := 49) C.1 C.2.1 (dk_at dkX6_see 17 rfl) (by decide) ?_
        refine lv_iconst (v := 2) C.1 C.2.1 (dk_at dkX6_see 18 rfl) (by decide) ?_
        refine lv_aload_n C.1 C.2.1 (dk_at dkX6_see 19 rfl) rfl (lv_at hl 0 rfl) ?_
        refine r_get (v := .ref (a_m 1)) C hK w.1 (fun w h => List.mem_cons_of_mem _ (inlX6 w h)) 0 rfl rfl 0 (by decide) (List.mem_cons_of_mem _ (inr4 _ (List.mem_of_getElem? (i := 4) rfl))) rfl (dk_at dkX6_see 20 rfl) ?_
        refine lv_bipush (v := 48) C.1 C.2.1 (dk_at dkX6_see 21 rfl) (by decide) ?_
        refine r_iald (k := 48) (f := st) C hK w.1 1 rfl (in_c (by decide)) (by decide) (dk_at dkX6_see 22 rfl) ?_
        refine lv_imul C.1 C.2.1 (dk_at dkX6_see 23 rfl) ?_
        refine lv_iadd C.1 C.2.1 (dk_at dkX6_see 24 rfl) ?_
        refine lv_topi (fun x9 ex9 => ?_)
        have hf := nm_at ex9 hf
        refine lv_istore_n (lv' := [(3, .int x9), (0, .ref (a_m 0)), (1, .int p1), (2, .int p2)]) C.1 C.2.1 (dk_at dkX6_see 25 rfl) rfl hl (by decide) rfl (fun ls hl => ?_)
        refine lv_aload_n C.1 C.2.1 (dk_at dkX6_see 26 rfl) rfl (lv_at hl 1 rfl) ?_
        refine r_get (v := .ref (a_m 1)) C hK w.1 (fun w h => List.mem_cons_of_mem _ (inlX6 w h)) 0 rfl rfl 0 (by decide) (List.mem_cons_of_mem _ (inr4 _ (List.mem_of_getElem? (i := 4) rfl))) rfl (dk_at dkX6_see 27 rfl) ?_
        refine lv_iload_n C.1 C.2.1 (dk_at dkX6_see 28 rfl) rfl (lv_at hl 0 rfl) ?_
        refine lv_iload_n C.1 C.2.1 (dk_at dkX6_see 29 rfl) rfl (lv_at hl 2 rfl) ?_
        obtain ⟨h10, hf⟩ := gd_at hf
        refine r_iast (k := x9.toNatClampNeg) (f := st) C hK w 1 rfl h10 rfl (dk_at dkX6_see 30 rfl) (fun H locs w => ?_)
        obtain ⟨st_11, est_11⟩ : ∃ z : AI, z = upd st x9.toNatClampNeg p1 := ⟨_, rfl⟩
        have hf := nm_at est_11 hf
        have w : Wd g A Z.heap (wM g a_m st_11 now isKept hearers draft dHearers dWalls toldWinds tape taped pos frm sort value fault wrongAt landed landedIn stepped isThere isAt isNext landSum heardSum allWays ways drawn lanes sizes cells torn before) H locs := by rw [est_11]; exact w
        refine lv_aload_n C.1 C.2.1 (dk_at dkX6_see 31 rfl) rfl (lv_at hl 1 rfl) ?_
        refine r_get (v := .ref (a_m 1)) C hK w.1 (fun w h => List.mem_cons_of_mem _ (inlX6 w h)) 0 rfl rfl 0 (by decide) (List.mem_cons_of_mem _ (inr4 _ (List.mem_of_getElem? (i := 4) rfl))) rfl (dk_at dkX6_see 32 rfl) ?_
        refine lv_iload_n C.1 C.2.1 (dk_at dkX6_see 33 rfl) rfl (lv_at hl 0 rfl) ?_
        refine lv_iconst (v := 1) C.1 C.2.1 (dk_at dkX6_see 34 rfl) (by decide) ?_
        refine lv_iadd C.1 C.2.1 (dk_at dkX6_see 35 rfl) ?_
        refine lv_topi (fun x12 ex12 => ?_)
        have hf := nm_at ex12 hf
        refine lv_iload_n C.1 C.2.1 (dk_at dkX6_see 36 rfl) rfl (lv_at hl 3 rfl) ?_
        obtain ⟨h13, hf⟩ := gd_at hf
        refine r_iast (k := x12.toNatClampNeg) (f := st_11) C hK w 1 rfl h13 rfl (dk_at dkX6_see 37 rfl) (fun H locs w => ?_)
        obtain ⟨st_14, est_14⟩ : ∃ z : AI, z = upd st_11 x12.toNatClampNeg p2 := ⟨_, rfl⟩
        have hf := nm_at est_14 hf
        have w : Wd g A Z.heap (wM g a_m st_14 now isKept hearers draft dHearers dWalls toldWinds tape taped pos frm sort value fault wrongAt landed landedIn stepped isThere isAt isNext landSum heardSum allWays ways drawn lanes sizes cells torn before) H locs := by rw [est_14]; exact w
        refine lv_aload_n C.1 C.2.1 (dk_at dkX6_see 38 rfl) rfl (lv_at hl 1 rfl) ?_
        refine r_get (v := .ref (a_m 1)) C hK w.1 (fun w h => List.mem_cons_of_mem _ (inlX6 w h)) 0 rfl rfl 0 (by decide) (List.mem_cons_of_mem _ (inr4 _ (List.mem_of_getElem? (i := 4) rfl))) rfl (dk_at dkX6_see 39 rfl) ?_
        refine lv_bipush (v := 48) C.1 C.2.1 (dk_at dkX6_see 40 rfl) (by decide) ?_
        refine lv_dup2_11 C.1 C.2.1 (dk_at dkX6_see 41 rfl) rfl rfl ?_
        refine r_iald (k := 48) (f := st_14) C hK w.1 1 rfl (in_c (by decide)) (by decide) (dk_at dkX6_see 42 rfl) ?_
        refine lv_topi (fun x15 ex15 => ?_)
        have hf := nm_at ex15 hf
        refine lv_iconst (v := 1) C.1 C.2.1 (dk_at dkX6_see 43 rfl) (by decide) ?_
        refine lv_iadd C.1 C.2.1 (dk_at dkX6_see 44 rfl) ?_
        refine lv_topi (fun x16 ex16 => ?_)
        have hf := nm_at ex16 hf
        refine r_iast (k := 48) (f := st_14) C hK w 1 rfl (in_c (by decide)) (by decide) (dk_at dkX6_see 45 rfl) (fun H locs w => ?_)
        obtain ⟨st_17, est_17⟩ : ∃ z : AI, z = upd st_14 48 x16 := ⟨_, rfl⟩
        have hf := nm_at est_17 hf
        have w : Wd g A Z.heap (wM g a_m st_17 now isKept hearers draft dHearers dWalls toldWinds tape taped pos frm sort value fault wrongAt landed landedIn stepped isThere isAt isNext landSum heardSum allWays ways drawn lanes sizes cells torn before) H locs := by rw [est_17]; exact w
        refine lv_aload_n C.1 C.2.1 (dk_at dkX6_see 46 rfl) rfl (lv_at hl 1 rfl) ?_
        refine r_get (v := .ref (a_m 1)) C hK w.1 (fun w h => List.mem_cons_of_mem _ (inlX6 w h)) 0 rfl rfl 0 (by decide) (List.mem_cons_of_mem _ (inr4 _ (List.mem_of_getElem? (i := 4) rfl))) rfl (dk_at dkX6_see 47 rfl) ?_
        refine lv_bipush (v := 48) C.1 C.2.1 (dk_at dkX6_see 48 rfl) (by decide) ?_
        refine r_iald (k := 48) (f := st_17) C hK w.1 1 rfl (in_c (by decide)) (by decide) (dk_at dkX6_see 49 rfl) ?_
        refine lv_topi (fun x18 ex18 => ?_)
        have hf := nm_at ex18 hf
        cases hf
        exact fin _ _ _ _ _ (dk_at dkX6_see 50 rfl) rfl w
      · have hf := (if_pos c8).symm.trans hf
        refine lv_bipush (v := (-3)) C.1 C.2.1 (dk_at dkX6_see 15 rfl) (by decide) ?_
        cases hf
        exact fin _ _ _ _ _ (dk_at dkX6_see 16 rfl) rfl w
    · have hf := (if_pos c6).symm.trans hf
      refine lv_iconst (v := (-1)) C.1 C.2.1 (dk_at dkX6_see 7 rfl) (by decide) ?_
      cases hf
      exact fin _ _ _ _ _ (dk_at dkX6_see 8 rfl) rfl w
-- X6.forget
abbrev tbX6_forget : List (Nat × Instr × Nat) := [(0, .iload_n 1, 1), (1, .i2l, 1), (2, .lconst 0, 1), (3, .aload_n 0, 1), (4, .getfield 7, 3), (7, .bipush 48, 2), (9, .iaload, 1), (10, .i2l, 1), (11, .invokestatic 83, 3), (14, .ifCond .eq 13, 3), (17, .aload_n 0, 1), (18, .bipush 48, 2), (20, .iload_n 1, 1), (21, .invokevirtual 230, 3), (24, .goto 4, 3), (27, .iconst (-1), 1), (28, .ireturn, 1)]
theorem dkX6_forget : dk cX6_forget tbX6_forget := dk_of (by decide +kernel)
abbrev cdX6_forget : Cond := Cond.code yX6_forget cX6_forget 2 (some .int)
abbrev rmX6_forget : Room := { frames := 1, cells := 0, slots := 0, locals := 25 }
theorem mwX6_forget : Cond.instanceMethod yX6_forget ∈ wsL_law ∧ Cond.selects RX6 yX6_forget yX6_forget ∈ wsL_law ∧ Cond.initialized RX6 ∈ wsL_law ∧ cdX6_forget ∈ wsL_law := ⟨inr35 _ (List.mem_of_getElem? (i := 18) rfl), inr35 _ (List.mem_of_getElem? (i := 19) rfl), inr1 _ (List.mem_of_getElem? (i := 5) rfl), inr35 _ (List.mem_of_getElem? (i := 20) rfl)⟩
theorem hdX6_forget : yX6_forget.cls = RX6 ∧ yX6_forget.cls ≠ "java/lang/invoke/MethodHandle" ∧ yX6_forget.cls ≠ "java/lang/invoke/VarHandle" ∧ (parseMethodDescriptor yX6_forget.desc).map (fun d => d.parameters.length) = some 1 := by decide +kernel
set_option maxHeartbeats 4000000 in
set_option maxRecDepth 100000 in
theorem kX6_forget (l : Launch) (g : Gx) (sz : Nat) (a_m : Nat → Nat) (st : AI) (now : AI) (isKept : AI) (hearers : Int32) (draft : AI) (dHearers : Int32) (dWalls : Int32) (toldWinds : Int32) (tape : AI) (taped : Int32) (pos : Int32) (frm : Int32) (sort : Int32) (value : Int32) (fault : Int32) (wrongAt : Int32) (landed : AI) (landedIn : AI) (stepped : AI) (isThere : AI) (isAt : AI) (isNext : AI) (landSum : Int64) (heardSum : Int64) (allWays : Int64) (ways : AI) (drawn : AI) (lanes : AI) (sizes : AI) (cells : AI) (torn : Int32) (before : AI) (p1 : Int32) (res : Int32) (st_o : AI) (hf : fX6_forget p1 st = some (res, st_o)) : Met l yX6_forget (cdX6_forget :: wsL_law) rmX6_forget (va_Pc [.ref (a_m 0), .int p1] (RWp g sz (wM g a_m st now isKept hearers draft dHearers dWalls toldWinds tape taped pos frm sort value fault wrongAt landed landedIn stepped isThere isAt isNext landSum heardSum allWays ways drawn lanes sizes cells torn before))) (va_Qi (fun x (_ : Unit) => x = res) (fun _ => RWq g (va_A (wM g a_m st now isKept hearers draft dHearers dWalls toldWinds tape taped pos frm sort value fault wrongAt landed landedIn stepped isThere isAt isNext landSum heardSum allWays ways drawn lanes sizes cells torn before) sz) (wM g a_m st_o now isKept hearers draft dHearers dWalls toldWinds tape taped pos frm sort value fault wrongAt landed landedIn stepped isThere isAt isNext landSum heardSum allWays ways drawn lanes sizes cells torn before)) (va_A (wM g a_m st now isKept hearers draft dHearers dWalls toldWinds tape taped pos frm sort value fault wrongAt landed landedIn stepped isThere isAt isNext landSum heardSum allWays ways drawn lanes sizes cells torn before) sz)) 0 0 (va_A (wM g a_m st now isKept hearers draft dHearers dWalls toldWinds tape taped pos frm sort value fault wrongAt landed landedIn stepped isThere isAt isNext landSum heardSum allWays ways drawn lanes sizes cells torn before) sz) := by
  refine Met_rwi (cc := cX6_forget) (maxL := 2) (by decide) rfl (Nat.le_of_ble_eq_true rfl) ?_
  intro P E Z Mi AR BE ME CO A Q C hK hA fin w ls hl
  have hl : lv_has ls 2 [(0, .ref (a_m 0)), (1, .int p1)] := hl
  unfold fX6_forget at hf
  refine lv_iload_n C.1 C.2.1 (dk_at dkX6_forget 0 rfl) rfl (lv_at hl 1 rfl) ?_
  refine lv_i2l C.1 C.2.1 (dk_at dkX6_forget 1 rfl) rfl ?_
  refine lv_topl (fun x1 ex1 => ?_)
  have hf := nm_at ex1 hf
  refine lv_lconst (v := 0) C.1 C.2.1 (dk_at dkX6_forget 2 rfl) (by decide) ?_
  refine lv_aload_n C.1 C.2.1 (dk_at dkX6_forget 3 rfl) rfl (lv_at hl 0 rfl) ?_
  refine r_get (v := .ref (a_m 1)) C hK w.1 (fun w h => List.mem_cons_of_mem _ (inlX6 w h)) 0 rfl rfl 0 (by decide) (List.mem_cons_of_mem _ (inr4 _ (List.mem_of_getElem? (i := 4) rfl))) rfl (dk_at dkX6_forget 4 rfl) ?_
  refine lv_bipush (v := 48) C.1 C.2.1 (dk_at dkX6_forget 5 rfl) (by decide) ?_
  refine r_iald (k := 48) (f := st) C hK w.1 1 rfl (in_c (by decide)) (by decide) (dk_at dkX6_forget 6 rfl) ?_
  refine lv_i2l C.1 C.2.1 (dk_at dkX6_forget 7 rfl) rfl ?_
  refine lv_topl (fun x2 ex2 => ?_)
  have hf := nm_at ex2 hf
  obtain ⟨r3, hq4, hf⟩ := bd1_at hf
  refine r_st (As := [.long x1, .long 0, .long x2]) (rest := []) C (kX6_in l x1 0 x2 r3 hq4) (cwS0 C (inr5 _ (List.mem_of_getElem? (i := 21) rfl)) mwX6_in hdX6_in ⟨Nat.le_of_ble_eq_true rfl, Nat.le_of_ble_eq_true rfl⟩) rfl hl.1 rfl (Nat.le_of_ble_eq_true rfl) ⟨Nat.zero_le _, Nat.zero_le _⟩ (dk_at dkX6_forget 8 rfl) ?_
  refine lv_if_eq (tgt := 27) C.1 C.2.1 (dk_at dkX6_forget 9 rfl) (by decide) (fun c5 => ?_) (fun c5 => ?_)
  · have hf := (if_pos c5).symm.trans hf
    refine lv_iconst (v := (-1)) C.1 C.2.1 (dk_at dkX6_forget 15 rfl) (by decide) ?_
    cases hf
    exact fin _ _ _ _ _ (dk_at dkX6_forget 16 rfl) rfl w
  · have hf := (if_neg c5).symm.trans hf
    refine lv_aload_n C.1 C.2.1 (dk_at dkX6_forget 10 rfl) rfl (lv_at hl 0 rfl) ?_
    refine lv_bipush (v := 48) C.1 C.2.1 (dk_at dkX6_forget 11 rfl) (by decide) ?_
    refine lv_iload_n C.1 C.2.1 (dk_at dkX6_forget 12 rfl) rfl (lv_at hl 1 rfl) ?_
    obtain ⟨r6, st_7, hq8, hf⟩ := bd2_at hf
    refine r_rwi (As := [.int 48, .int p1]) (rest := []) (wr := []) (ws' := wM g a_m st_7 now isKept hearers draft dHearers dWalls toldWinds tape taped pos frm sort value fault wrongAt landed landedIn stepped isThere isAt isNext landSum heardSum allWays ways drawn lanes sizes cells torn before) C (kX6_becomes l g _ a_m st now isKept hearers draft dHearers dWalls toldWinds tape taped pos frm sort value fault wrongAt landed landedIn stepped isThere isAt isNext landSum heardSum allWays ways drawn lanes sizes cells torn before 48 p1 r6 st_7 hq8) (cwV0 C (inr21 _ (List.mem_of_getElem? (i := 5) rfl)) mwX6_becomes hdX6_becomes ⟨Nat.le_of_ble_eq_true rfl, Nat.le_of_ble_eq_true rfl⟩) hK w hA [0, 1, 2, 3, 4, 5, 6, 7, 8, 9, 10, 11, 12, 13, 14, 15, 16, 17] [] [0, 1, 2, 3, 4, 5, 6, 7, 8, 9, 10, 11, 12, 13, 14, 15, 16, 17] (by decide) rfl rfl (by decide) (by decide) rfl (by decide) rfl rfl rfl hl.1 rfl (Nat.le_of_ble_eq_true rfl) ⟨Nat.zero_le _, Nat.zero_le _⟩ (dk_at dkX6_forget 13 rfl) (fun H locs w => ?_)
    refine lv_goto (tgt := 28) C.1 C.2.1 (dk_at dkX6_forget 14 rfl) (by decide) ?_
    cases hf
    exact fin _ _ _ _ _ (dk_at dkX6_forget 16 rfl) rfl w
-- X6.isSoWith
abbrev tbX6_isSoWith : List (Nat × Instr × Nat) := [(0, .aload_n 0, 1), (1, .invokevirtual 201, 3), (4, .aload_n 0, 1), (5, .iload_n 1, 1), (6, .iload_n 2, 1), (7, .iload_n 3, 1), (8, .invokevirtual 255, 3), (11, .aload_n 0, 1), (12, .invokevirtual 204, 3), (15, .iconst 1, 1), (16, .istore 4, 2), (18, .iconst 0, 1), (19, .istore 5, 2), (21, .iload 5, 2), (23, .aload_n 0, 1), (24, .getfield 7, 3), (27, .bipush 48, 2), (29, .iaload, 1), (30, .if_icmp .ge 55, 3), (33, .iload 4, 2), (35, .ifCond .eq 41, 3), (38, .aload_n 0, 1), (39, .getfield 26, 3), (42, .aload_n 0, 1), (43, .getfield 7, 3), (46, .bipush 49, 2), (48, .iconst 2, 1), (49, .iload 5, 2), (51, .imul, 1), (52, .iadd, 1), (53, .iaload, 1), (54, .iaload, 1), (55, .aload_n 0, 1), (56, .getfield 7, 3), (59, .bipush 49, 2), (61, .iconst 2, 1), (62, .iload 5, 2), (64, .imul, 1), (65, .iadd, 1), (66, .iconst 1, 1), (67, .iadd, 1), (68, .iaload, 1), (69, .if_icmp .ne 7, 3), (72, .iconst 1, 1), (73, .goto 4, 3), (76, .iconst 0, 1), (77, .istore 4, 2), (79, .iinc 5 1, 3), (82, .goto (-61), 3), (85, .iload 4, 2), (87, .ireturn, 1)]
theorem dkX6_isSoWith : dk cX6_isSoWith tbX6_isSoWith := dk_of (by decide +kernel)
abbrev cdX6_isSoWith : Cond := Cond.code yX6_isSoWith cX6_isSoWith 6 (some .boolean)
abbrev rmX6_isSoWith : Room := { frames := 4, cells := 0, slots := 0, locals := 97 }
theorem mwX6_isSoWith : Cond.instanceMethod yX6_isSoWith ∈ wsL_law ∧ Cond.selects RX6 yX6_isSoWith yX6_isSoWith ∈ wsL_law ∧ Cond.initialized RX6 ∈ wsL_law ∧ cdX6_isSoWith ∈ wsL_law := ⟨inr36 _ (List.mem_of_getElem? (i := 17) rfl), inr36 _ (List.mem_of_getElem? (i := 18) rfl), inr1 _ (List.mem_of_getElem? (i := 5) rfl), inr36 _ (List.mem_of_getElem? (i := 19) rfl)⟩
theorem hdX6_isSoWith : yX6_isSoWith.cls = RX6 ∧ yX6_isSoWith.cls ≠ "java/lang/invoke/MethodHandle" ∧ yX6_isSoWith.cls ≠ "java/lang/invoke/VarHandle" ∧ (parseMethodDescriptor yX6_isSoWith.desc).map (fun d => d.parameters.length) = some 3 := by decide +kernel
set_option maxHeartbeats 4000000 in
set_option maxRecDepth 100000 in
theorem kX6_isSoWith (l : Launch) (g : Gx) (sz : Nat) (a_m : Nat → Nat) (st : AI) (now : AI) (isKept : AI) (hearers : Int32) (draft : AI) (dHearers : Int32) (dWalls : Int32) (toldWinds : Int32) (tape : AI) (taped : Int32) (pos : Int32) (frm : Int32) (sort : Int32) (value : Int32) (fault : Int32) (wrongAt : Int32) (landed : AI) (landedIn : AI) (stepped : AI) (isThere : AI) (isAt : AI) (isNext : AI) (landSum : Int64) (heardSum : Int64) (allWays : Int64) (ways : AI) (drawn : AI) (lanes : AI) (sizes : AI) (cells : AI) (torn : Int32) (before : AI) (p1 : Int32) (p2 : Int32) (p3 : Int32) (res : Int32) (now_o : AI) (landed_o : AI) (landedIn_o : AI) (stepped_o : AI) (hf : fX6_isSoWith p1 p2 p3 st now landed landedIn stepped = some (res, now_o, landed_o, landedIn_o, stepped_o)) : Met l yX6_isSoWith (cdX6_isSoWith :: wsL_law) rmX6_isSoWith (va_Pc [.ref (a_m 0), .int p1, .int p2, .int p3] (RWp g sz (wM g a_m st now isKept hearers draft dHearers dWalls toldWinds tape taped pos frm sort value fault wrongAt landed landedIn stepped isThere isAt isNext landSum heardSum allWays ways drawn lanes sizes cells torn before))) (va_Qi (fun x (_ : Unit) => x = res) (fun _ => RWq g (va_A (wM g a_m st now isKept hearers draft dHearers dWalls toldWinds tape taped pos frm sort value fault wrongAt landed landedIn stepped isThere isAt isNext landSum heardSum allWays ways drawn lanes sizes cells torn before) sz) (wM g a_m st now_o isKept hearers draft dHearers dWalls toldWinds tape taped pos frm sort value fault wrongAt landed_o landedIn_o stepped_o isThere isAt isNext landSum heardSum allWays ways drawn lanes sizes cells torn before)) (va_A (wM g a_m st now isKept hearers draft dHearers dWalls toldWinds tape taped pos frm sort value fault wrongAt landed landedIn stepped isThere isAt isNext landSum heardSum allWays ways drawn lanes sizes cells torn before) sz)) 0 0 (va_A (wM g a_m st now isKept hearers draft dHearers dWalls toldWinds tape taped pos frm sort value fault wrongAt landed landedIn stepped isThere isAt isNext landSum heardSum allWays ways drawn lanes sizes cells torn before) sz) := by
  refine Met_rwz (cc := cX6_isSoWith) (maxL := 6) (by decide) rfl (Nat.le_of_ble_eq_true rfl) ?_
  intro P E Z Mi AR BE ME CO A Q C hK hA fin w ls hl
  have hl : lv_has ls 6 [(0, .ref (a_m 0)), (1, .int p1), (2, .int p2), (3, .int p3)] := hl
  unfold fX6_isSoWith at hf
  refine lv_aload_n C.1 C.2.1 (dk_at dkX6_isSoWith 0 rfl) rfl (lv_at hl 0 rfl) ?_
  obtain ⟨now_1, hq2, hf⟩ := bd1_at hf
  refine r_rwv (As := []) (rest := []) (wr := []) (ws' := wM g a_m st now_1 isKept hearers draft dHearers dWalls toldWinds tape taped pos frm sort value fault wrongAt landed landedIn stepped isThere isAt isNext landSum heardSum allWays ways drawn lanes sizes cells torn before) C (kX6_starts l g _ a_m st now isKept hearers draft dHearers dWalls toldWinds tape taped pos frm sort value fault wrongAt landed landedIn stepped isThere isAt isNext landSum heardSum allWays ways drawn lanes sizes cells torn before now_1 hq2) (cwV0 C (inr17 _ (List.mem_of_getElem? (i := 3) rfl)) mwX6_starts hdX6_starts ⟨Nat.le_of_ble_eq_true rfl, Nat.le_of_ble_eq_true rfl⟩) hK w hA [0, 1, 2, 3, 4, 5, 6, 7, 8, 9, 10, 11, 12, 13, 14, 15, 16, 17] [] [0, 1, 2, 3, 4, 5, 6, 7, 8, 9, 10, 11, 12, 13, 14, 15, 16, 17] (by decide) rfl rfl (by decide) (by decide) rfl (by decide) rfl rfl rfl hl.1 rfl (Nat.le_of_ble_eq_true rfl) ⟨Nat.zero_le _, Nat.zero_le _⟩ (dk_at dkX6_isSoWith 1 rfl) (fun H locs w => ?_)
  refine lv_aload_n C.1 C.2.1 (dk_at dkX6_isSoWith 2 rfl) rfl (lv_at hl 0 rfl) ?_
  refine lv_iload_n C.1 C.2.1 (dk_at dkX6_isSoWith 3 rfl) rfl (lv_at hl 1 rfl) ?_
  refine lv_iload_n C.1 C.2.1 (dk_at dkX6_isSoWith 4 rfl) rfl (lv_at hl 2 rfl) ?_
  refine lv_iload_n C.1 C.2.1 (dk_at dkX6_isSoWith 5 rfl) rfl (lv_at hl 3 rfl) ?_
  obtain ⟨now_3, hq4, hf⟩ := bd1_at hf
  refine r_rwv (As := [.int p1, .int p2, .int p3]) (rest := []) (wr := []) (ws' := wM g a_m st now_3 isKept hearers draft dHearers dWalls toldWinds tape taped pos frm sort value fault wrongAt landed landedIn stepped isThere isAt isNext landSum heardSum allWays ways drawn lanes sizes cells torn before) C (kX6_becomesOf l g _ a_m st now_1 isKept hearers draft dHearers dWalls toldWinds tape taped pos frm sort value fault wrongAt landed landedIn stepped isThere isAt isNext landSum heardSum allWays ways drawn lanes sizes cells torn before p1 p2 p3 now_3 hq4) (cwV0 C (inr30 _ (List.mem_of_getElem? (i := 0) rfl)) mwX6_becomesOf hdX6_becomesOf ⟨Nat.le_of_ble_eq_true rfl, Nat.le_of_ble_eq_true rfl⟩) hK w hA [0, 1, 2, 3, 4, 5, 6, 7, 8, 9, 10, 11, 12, 13, 14, 15, 16, 17] [] [0, 1, 2, 3, 4, 5, 6, 7, 8, 9, 10, 11, 12, 13, 14, 15, 16, 17] (by decide) rfl rfl (by decide) (by decide) rfl (by decide) rfl rfl rfl hl.1 rfl (Nat.le_of_ble_eq_true rfl) ⟨Nat.zero_le _, Nat.zero_le _⟩ (dk_at dkX6_isSoWith 6 rfl) (fun H locs w => ?_)
  refine lv_aload_n C.1 C.2.1 (dk_at dkX6_isSoWith 7 rfl) rfl (lv_at hl 0 rfl) ?_
  obtain ⟨now_5, landed_6, landedIn_7, stepped_8, hq9, hf⟩ := bd4_at hf
  refine r_rwv (As := []) (rest := []) (wr := []) (ws' := wM g a_m st now_5 isKept hearers draft dHearers dWalls toldWinds tape taped pos frm sort value fault wrongAt landed_6 landedIn_7 stepped_8 isThere isAt isNext landSum heardSum allWays ways drawn lanes sizes cells torn before) C (kX6_dayGoes l g _ a_m st now_3 isKept hearers draft dHearers dWalls toldWinds tape taped pos frm sort value fault wrongAt landed landedIn stepped isThere isAt isNext landSum heardSum allWays ways drawn lanes sizes cells torn before now_5 landed_6 landedIn_7 stepped_8 hq9) (cwV0 C (inr25 _ (List.mem_of_getElem? (i := 9) rfl)) mwX6_dayGoes hdX6_dayGoes ⟨Nat.le_of_ble_eq_true rfl, Nat.le_of_ble_eq_true rfl⟩) hK w hA [0, 1, 2, 3, 4, 5, 6, 7, 8, 9, 10, 11, 12, 13, 14, 15, 16, 17] [] [0, 1, 2, 3, 4, 5, 6, 7, 8, 9, 10, 11, 12, 13, 14, 15, 16, 17] (by decide) rfl rfl (by decide) (by decide) rfl (by decide) rfl rfl rfl hl.1 rfl (Nat.le_of_ble_eq_true rfl) ⟨Nat.zero_le _, Nat.zero_le _⟩ (dk_at dkX6_isSoWith 8 rfl) (fun H locs w => ?_)
  refine lv_iconst (v := 1) C.1 C.2.1 (dk_at dkX6_isSoWith 9 rfl) (by decide) ?_
  refine lv_istore (lv' := [(4, .int 1), (0, .ref (a_m 0)), (1, .int p1), (2, .int p2), (3, .int p3)]) C.1 C.2.1 (dk_at dkX6_isSoWith 10 rfl) hl (by decide) rfl (fun ls hl => ?_)
  refine lv_iconst (v := 0) C.1 C.2.1 (dk_at dkX6_isSoWith 11 rfl) (by decide) ?_
  refine lv_istore (lv' := [(5, .int 0), (4, .int 1), (0, .ref (a_m 0)), (1, .int p1), (2, .int p2), (3, .int p3)]) C.1 C.2.1 (dk_at dkX6_isSoWith 12 rfl) hl (by decide) rfl (fun ls hl => ?_)
  have L12 : ∀ (K : Int32 → Int32 → Option (Int32 × AI × AI × AI × AI)), (∀ (v10 : Int32) (v11 : Int32) (H : Heap) (locs : List Loc) (ls : Array Slot), Wd g A Z.heap (wM g a_m st now_5 isKept hearers draft dHearers dWalls toldWinds tape taped pos frm sort value fault wrongAt landed_6 landedIn_7 stepped_8 isThere isAt isNext landSum heardSum allWays ways drawn lanes sizes cells torn before) H locs → lv_has ls 6 [(4, .int v11)] → K v10 v11 = some (res, now_o, landed_o, landedIn_o, stepped_o) → W P l E rmX6_isSoWith Z Mi AR BE ME CO H locs 0 0 Q (F0 Mi 85 ls [])) → ∀ (n : Nat), ∀ (v10 : Int32) (v11 : Int32) (H : Heap) (locs : List Loc) (ls : Array Slot), Wd g A Z.heap (wM g a_m st now_5 isKept hearers draft dHearers dWalls toldWinds tape taped pos frm sort value fault wrongAt landed_6 landedIn_7 stepped_8 isThere isAt isNext landSum heardSum allWays ways drawn lanes sizes cells torn before) H locs → lv_has ls 6 [(5, .int v10), (4, .int v11), (0, .ref (a_m 0))] → fX6_isSoWith_L21 st landed_6 K n v10 v11 = some (res, now_o, landed_o, landedIn_o, stepped_o) → W P l E rmX6_isSoWith Z Mi AR BE ME CO H locs 0 0 Q (F0 Mi 21 ls []) := by
    intro K hKe n
    induction n with
    | zero => intro v10 v11 H locs ls w hl hf; cases hf
    | succ n ih =>
      intro v10 v11 H locs ls w hl hf
      rw [fX6_isSoWith_L21] at hf
      refine lv_iload C.1 C.2.1 (dk_at dkX6_isSoWith 13 rfl) (lv_at hl 0 rfl) ?_
      refine lv_aload_n C.1 C.2.1 (dk_at dkX6_isSoWith 14 rfl) rfl (lv_at hl 2 rfl) ?_
      refine r_get (v := .ref (a_m 1)) C hK w.1 (fun w h => List.mem_cons_of_mem _ (inlX6 w h)) 0 rfl rfl 0 (by decide) (List.mem_cons_of_mem _ (inr4 _ (List.mem_of_getElem? (i := 4) rfl))) rfl (dk_at dkX6_isSoWith 15 rfl) ?_
      refine lv_bipush (v := 48) C.1 C.2.1 (dk_at dkX6_isSoWith 16 rfl) (by decide) ?_
      refine r_iald (k := 48) (f := st) C hK w.1 1 rfl (in_c (by decide)) (by decide) (dk_at dkX6_isSoWith 17 rfl) ?_
      refine lv_icmp_ge (tgt := 85) C.1 C.2.1 (dk_at dkX6_isSoWith 18 rfl) (by decide) (fun c13 => ?_) (fun c13 => ?_)
      · have hf := (if_pos c13).symm.trans hf
        exact hKe v10 v11 _ _ _ w (lv_sub hl [1] rfl) hf
      · have hf := (if_neg c13).symm.trans hf
        refine lv_iload C.1 C.2.1 (dk_at dkX6_isSoWith 19 rfl) (lv_at hl 1 rfl) ?_
        refine lv_if_eq (tgt := 76) C.1 C.2.1 (dk_at dkX6_isSoWith 20 rfl) (by decide) (fun c14 => ?_) (fun c14 => ?_)
        · have hf := (if_pos c14).symm.trans hf
          refine lv_iconst (v := 0) C.1 C.2.1 (dk_at dkX6_isSoWith 45 rfl) (by decide) ?_
          refine lv_istore (lv' := [(4, .int 0), (5, .int v10), (0, .ref (a_m 0))]) C.1 C.2.1 (dk_at dkX6_isSoWith 46 rfl) hl (by decide) rfl (fun ls hl => ?_)
          obtain ⟨x15, ex15⟩ : ∃ z : Int32, z = v10 + 1 := ⟨_, rfl⟩
          have hf := nm_at ex15 hf
          refine lv_iinc (v := x15) (lv' := [(5, .int x15), (4, .int 0), (0, .ref (a_m 0))]) C.1 C.2.1 (dk_at dkX6_isSoWith 47 rfl) hl (k := 1) rfl (by rw [ex15]; rfl) (by decide) rfl (fun ls hl => ?_)
          refine lv_goto (tgt := 21) C.1 C.2.1 (dk_at dkX6_isSoWith 48 rfl) (by decide) ?_
          exact ih x15 0 _ _ _ w (lv_sub hl [0, 1, 2] rfl) hf
        · have hf := (if_neg c14).symm.trans hf
          refine lv_aload_n C.1 C.2.1 (dk_at dkX6_isSoWith 21 rfl) rfl (lv_at hl 2 rfl) ?_
          refine r_get (v := .ref (a_m 6)) C hK w.1 (fun w h => List.mem_cons_of_mem _ (inlX6 w h)) 0 rfl rfl 16 (by decide) (List.mem_cons_of_mem _ (inr4 _ (List.mem_of_getElem? (i := 9) rfl))) rfl (dk_at dkX6_isSoWith 22 rfl) ?_
          refine lv_aload_n C.1 C.2.1 (dk_at dkX6_isSoWith 23 rfl) rfl (lv_at hl 2 rfl) ?_
          refine r_get (v := .ref (a_m 1)) C hK w.1 (fun w h => List.mem_cons_of_mem _ (inlX6 w h)) 0 rfl rfl 0 (by decide) (List.mem_cons_of_mem _ (inr4 _ (List.mem_of_getElem? (i := 4) rfl))) rfl (dk_at dkX6_isSoWith 24 rfl) ?_
          refine lv_bipush (v := 49) C.1 C.2.1 (dk_at dkX6_isSoWith 25 rfl) (by decide) ?_
          refine lv_iconst (v := 2) C.1 C.2.1 (dk_at dkX6_isSoWith 26 rfl) (by decide) ?_
          refine lv_iload C.1 C.2.1 (dk_at dkX6_isSoWith 27 rfl) (lv_at hl 0 rfl) ?_
          refine lv_imul C.1 C.2.1 (dk_at dkX6_isSoWith 28 rfl) ?_
          refine lv_iadd C.1 C.2.1 (dk_at dkX6_isSoWith 29 rfl) ?_
          refine lv_topi (fun x16 ex16 => ?_)
          have hf := nm_at ex16 hf
          obtain ⟨h17, hf⟩ := gd_at hf
          refine r_iald (k := x16.toNatClampNeg) (f := st) C hK w.1 1 rfl h17 rfl (dk_at dkX6_isSoWith 30 rfl) ?_
          refine lv_topi (fun x18 ex18 => ?_)
          have hf := nm_at ex18 hf
          obtain ⟨h19, hf⟩ := gd_at hf
          refine r_iald (k := x18.toNatClampNeg) (f := landed_6) C hK w.1 6 rfl h19 rfl (dk_at dkX6_isSoWith 31 rfl) ?_
          refine lv_topi (fun x20 ex20 => ?_)
          have hf := nm_at ex20 hf
          refine lv_aload_n C.1 C.2.1 (dk_at dkX6_isSoWith 32 rfl) rfl (lv_at hl 2 rfl) ?_
          refine r_get (v := .ref (a_m 1)) C hK w.1 (fun w h => List.mem_cons_of_mem _ (inlX6 w h)) 0 rfl rfl 0 (by decide) (List.mem_cons_of_mem _ (inr4 _ (List.mem_of_getElem? (i := 4) rfl))) rfl (dk_at dkX6_isSoWith 33 rfl) ?_
          refine lv_bipush (v := 49) C.1 C.2.1 (dk_at dkX6_isSoWith 34 rfl) (by decide) ?_
          refine lv_iconst (v := 2) C.1 C.2.1 (dk_at dkX6_isSoWith 35 rfl) (by decide) ?_
          refine lv_iload C.1 C.2.1 (dk_at dkX6_isSoWith 36 rfl) (lv_at hl 0 rfl) ?_
          refine lv_imul C.1 C.2.1 (dk_at dkX6_isSoWith 37 rfl) ?_
          refine lv_iadd C.1 C.2.1 (dk_at dkX6_isSoWith 38 rfl) ?_
          refine lv_topi (fun x21 ex21 => ?_)
          have hf := nm_at ex21 hf
          refine lv_iconst (v := 1) C.1 C.2.1 (dk_at dkX6_isSoWith 39 rfl) (by decide) ?_
          refine lv_iadd C.1 C.2.1 (dk_at dkX6_isSoWith 40 rfl) ?_
          refine lv_topi (fun x22 ex22 => ?_)
          have hf := nm_at ex22 hf
          obtain ⟨h23, hf⟩ := gd_at hf
          refine r_iald (k := x22.toNatClampNeg) (f := st) C hK w.1 1 rfl h23 rfl (dk_at dkX6_isSoWith 41 rfl) ?_
          refine lv_icmp_ne (tgt := 76) C.1 C.2.1 (dk_at dkX6_isSoWith 42 rfl) (by decide) (fun c24 => ?_) (fun c24 => ?_)
          · have hf := (if_neg c24).symm.trans hf
            refine lv_iconst (v := 0) C.1 C.2.1 (dk_at dkX6_isSoWith 45 rfl) (by decide) ?_
            refine lv_istore (lv' := [(4, .int 0), (5, .int v10), (0, .ref (a_m 0))]) C.1 C.2.1 (dk_at dkX6_isSoWith 46 rfl) hl (by decide) rfl (fun ls hl => ?_)
            obtain ⟨x25, ex25⟩ : ∃ z : Int32, z = v10 + 1 := ⟨_, rfl⟩
            have hf := nm_at ex25 hf
            refine lv_iinc (v := x25) (lv' := [(5, .int x25), (4, .int 0), (0, .ref (a_m 0))]) C.1 C.2.1 (dk_at dkX6_isSoWith 47 rfl) hl (k := 1) rfl (by rw [ex25]; rfl) (by decide) rfl (fun ls hl => ?_)
            refine lv_goto (tgt := 21) C.1 C.2.1 (dk_at dkX6_isSoWith 48 rfl) (by decide) ?_
            exact ih x25 0 _ _ _ w (lv_sub hl [0, 1, 2] rfl) hf
          · have hf := (if_pos c24).symm.trans hf
            refine lv_iconst (v := 1) C.1 C.2.1 (dk_at dkX6_isSoWith 43 rfl) (by decide) ?_
            refine lv_goto (tgt := 77) C.1 C.2.1 (dk_at dkX6_isSoWith 44 rfl) (by decide) ?_
            refine lv_istore (lv' := [(4, .int 1), (5, .int v10), (0, .ref (a_m 0))]) C.1 C.2.1 (dk_at dkX6_isSoWith 46 rfl) hl (by decide) rfl (fun ls hl => ?_)
            obtain ⟨x26, ex26⟩ : ∃ z : Int32, z = v10 + 1 := ⟨_, rfl⟩
            have hf := nm_at ex26 hf
            refine lv_iinc (v := x26) (lv' := [(5, .int x26), (4, .int 1), (0, .ref (a_m 0))]) C.1 C.2.1 (dk_at dkX6_isSoWith 47 rfl) hl (k := 1) rfl (by rw [ex26]; rfl) (by decide) rfl (fun ls hl => ?_)
            refine lv_goto (tgt := 21) C.1 C.2.1 (dk_at dkX6_isSoWith 48 rfl) (by decide) ?_
            exact ih x26 1 _ _ _ w (lv_sub hl [0, 1, 2] rfl) hf
  refine L12 _ ?_ 4096 0 1 _ _ _ w (lv_sub hl [0, 1, 2] rfl) hf
  clear hf
  intro v10 v11 H locs ls w hl hf
  refine lv_iload C.1 C.2.1 (dk_at dkX6_isSoWith 49 rfl) (lv_at hl 0 rfl) ?_
  obtain ⟨h27, hf⟩ := gb_at hf
  cases hf
  exact fin _ _ _ _ _ (dk_at dkX6_isSoWith 50 rfl) h27 rfl w
-- X6.kinds
abbrev tbX6_kinds : List (Nat × Instr × Nat) := [(0, .aload_n 0, 1), (1, .iload_n 1, 1), (2, .invokevirtual 214, 3), (5, .ifCond .ne 5, 3), (8, .iconst (-1), 1), (9, .ireturn, 1), (10, .iconst 0, 1), (11, .istore_n 2, 1), (12, .iconst 0, 1), (13, .istore_n 3, 1), (14, .iload_n 3, 1), (15, .iconst 4, 1), (16, .if_icmp .ge 24, 3), (19, .iload_n 2, 1), (20, .aload_n 0, 1), (21, .iload_n 1, 1), (22, .iconst 0, 1), (23, .iload_n 3, 1), (24, .invokevirtual 296, 3), (27, .invokestatic 207, 3), (30, .iload_n 3, 1), (31, .ishl, 1), (32, .ior, 1), (33, .istore_n 2, 1), (34, .iinc 3 1, 3), (37, .goto (-23), 3), (40, .iload_n 2, 1), (41, .ireturn, 1)]
theorem dkX6_kinds : dk cX6_kinds tbX6_kinds := dk_of (by decide +kernel)
abbrev cdX6_kinds : Cond := Cond.code yX6_kinds cX6_kinds 4 (some .int)
abbrev rmX6_kinds : Room := { frames := 5, cells := 0, slots := 0, locals := 122 }
theorem mwX6_kinds : Cond.instanceMethod yX6_kinds ∈ wsL_law ∧ Cond.selects RX6 yX6_kinds yX6_kinds ∈ wsL_law ∧ Cond.initialized RX6 ∈ wsL_law ∧ cdX6_kinds ∈ wsL_law := ⟨inr36 _ (List.mem_of_getElem? (i := 13) rfl), inr36 _ (List.mem_of_getElem? (i := 14) rfl), inr1 _ (List.mem_of_getElem? (i := 5) rfl), inr36 _ (List.mem_of_getElem? (i := 15) rfl)⟩
theorem hdX6_kinds : yX6_kinds.cls = RX6 ∧ yX6_kinds.cls ≠ "java/lang/invoke/MethodHandle" ∧ yX6_kinds.cls ≠ "java/lang/invoke/VarHandle" ∧ (parseMethodDescriptor yX6_kinds.desc).map (fun d => d.parameters.length) = some 1 := by decide +kernel
set_option maxHeartbeats 4000000 in
set_option maxRecDepth 100000 in
theorem kX6_kinds (l : Launch) (g : Gx) (sz : Nat) (a_m : Nat → Nat) (st : AI) (now : AI) (isKept : AI) (hearers : Int32) (draft : AI) (dHearers : Int32) (dWalls : Int32) (toldWinds : Int32) (tape : AI) (taped : Int32) (pos : Int32) (frm : Int32) (sort : Int32) (value : Int32) (fault : Int32) (wrongAt : Int32) (landed : AI) (landedIn : AI) (stepped : AI) (isThere : AI) (isAt : AI) (isNext : AI) (landSum : Int64) (heardSum : Int64) (allWays : Int64) (ways : AI) (drawn : AI) (lanes : AI) (sizes : AI) (cells : AI) (torn : Int32) (before : AI) (p1 : Int32) (res : Int32) (now_o : AI) (landed_o : AI) (landedIn_o : AI) (stepped_o : AI) (hf : fX6_kinds p1 st now landed landedIn stepped = some (res, now_o, landed_o, landedIn_o, stepped_o)) : Met l yX6_kinds (cdX6_kinds :: wsL_law) rmX6_kinds (va_Pc [.ref (a_m 0), .int p1] (RWp g sz (wM g a_m st now isKept hearers draft dHearers dWalls toldWinds tape taped pos frm sort value fault wrongAt landed landedIn stepped isThere isAt isNext landSum heardSum allWays ways drawn lanes sizes cells torn before))) (va_Qi (fun x (_ : Unit) => x = res) (fun _ => RWq g (va_A (wM g a_m st now isKept hearers draft dHearers dWalls toldWinds tape taped pos frm sort value fault wrongAt landed landedIn stepped isThere isAt isNext landSum heardSum allWays ways drawn lanes sizes cells torn before) sz) (wM g a_m st now_o isKept hearers draft dHearers dWalls toldWinds tape taped pos frm sort value fault wrongAt landed_o landedIn_o stepped_o isThere isAt isNext landSum heardSum allWays ways drawn lanes sizes cells torn before)) (va_A (wM g a_m st now isKept hearers draft dHearers dWalls toldWinds tape taped pos frm sort value fault wrongAt landed landedIn stepped isThere isAt isNext landSum heardSum allWays ways drawn lanes sizes cells torn before) sz)) 0 0 (va_A (wM g a_m st now isKept hearers draft dHearers dWalls toldWinds tape taped pos frm sort value fault wrongAt landed landedIn stepped isThere isAt isNext landSum heardSum allWays ways drawn lanes sizes cells torn before) sz) := by
  refine Met_rwi (cc := cX6_kinds) (maxL := 4) (by decide) rfl (Nat.le_of_ble_eq_true rfl) ?_
  intro P E Z Mi AR BE ME CO A Q C hK hA fin w ls hl
  have hl : lv_has ls 4 [(0, .ref (a_m 0)), (1, .int p1)] := hl
  unfold fX6_kinds at hf
  refine lv_aload_n C.1 C.2.1 (dk_at dkX6_kinds 0 rfl) rfl (lv_at hl 0 rfl) ?_
  refine lv_iload_n C.1 C.2.1 (dk_at dkX6_kinds 1 rfl) rfl (lv_at hl 1 rfl) ?_
  obtain ⟨r1, hq2, hf⟩ := bd1_at hf
  refine r_roV (As := [.int p1]) (rest := []) C (kX6_isSaying l g a_m st now isKept hearers draft dHearers dWalls toldWinds tape taped pos frm sort value fault wrongAt landed landedIn stepped isThere isAt isNext landSum heardSum allWays ways drawn lanes sizes cells torn before p1 r1 hq2) (cwV0 C (inr18 _ (List.mem_of_getElem? (i := 10) rfl)) mwX6_isSaying hdX6_isSaying ⟨Nat.le_of_ble_eq_true rfl, Nat.le_of_ble_eq_true rfl⟩) hK w.1 rfl rfl rfl hl.1 rfl (Nat.le_of_ble_eq_true rfl) ⟨Nat.zero_le _, Nat.zero_le _⟩ (dk_at dkX6_kinds 2 rfl) ?_
  refine lv_if_ne (tgt := 10) C.1 C.2.1 (dk_at dkX6_kinds 3 rfl) (by decide) (fun c3 => ?_) (fun c3 => ?_)
  · have hf := (if_neg c3).symm.trans hf
    refine lv_iconst (v := 0) C.1 C.2.1 (dk_at dkX6_kinds 6 rfl) (by decide) ?_
    refine lv_istore_n (lv' := [(2, .int 0), (0, .ref (a_m 0)), (1, .int p1)]) C.1 C.2.1 (dk_at dkX6_kinds 7 rfl) rfl hl (by decide) rfl (fun ls hl => ?_)
    refine lv_iconst (v := 0) C.1 C.2.1 (dk_at dkX6_kinds 8 rfl) (by decide) ?_
    refine lv_istore_n (lv' := [(3, .int 0), (2, .int 0), (0, .ref (a_m 0)), (1, .int p1)]) C.1 C.2.1 (dk_at dkX6_kinds 9 rfl) rfl hl (by decide) rfl (fun ls hl => ?_)
    have L10 : ∀ (K : Int32 → Int32 → AI → AI → AI → AI → Option (Int32 × AI × AI × AI × AI)), (∀ (v4 : Int32) (v5 : Int32) (now_6 : AI) (landed_7 : AI) (landedIn_8 : AI) (stepped_9 : AI) (H : Heap) (locs : List Loc) (ls : Array Slot), Wd g A Z.heap (wM g a_m st now_6 isKept hearers draft dHearers dWalls toldWinds tape taped pos frm sort value fault wrongAt landed_7 landedIn_8 stepped_9 isThere isAt isNext landSum heardSum allWays ways drawn lanes sizes cells torn before) H locs → lv_has ls 4 [(2, .int v5)] → K v4 v5 now_6 landed_7 landedIn_8 stepped_9 = some (res, now_o, landed_o, landedIn_o, stepped_o) → W P l E rmX6_kinds Z Mi AR BE ME CO H locs 0 0 Q (F0 Mi 40 ls [])) → ∀ (n : Nat), ∀ (v4 : Int32) (v5 : Int32) (now_6 : AI) (landed_7 : AI) (landedIn_8 : AI) (stepped_9 : AI) (H : Heap) (locs : List Loc) (ls : Array Slot), Wd g A Z.heap (wM g a_m st now_6 isKept hearers draft dHearers dWalls toldWinds tape taped pos frm sort value fault wrongAt landed_7 landedIn_8 stepped_9 isThere isAt isNext landSum heardSum allWays ways drawn lanes sizes cells torn before) H locs → lv_has ls 4 [(3, .int v4), (2, .int v5), (0, .ref (a_m 0)), (1, .int p1)] → fX6_kinds_L14 st p1 K n v4 v5 now_6 landed_7 landedIn_8 stepped_9 = some (res, now_o, landed_o, landedIn_o, stepped_o) → W P l E rmX6_kinds Z Mi AR BE ME CO H locs 0 0 Q (F0 Mi 14 ls []) := by
      intro K hKe n
      induction n with
      | zero => intro v4 v5 now_6 landed_7 landedIn_8 stepped_9 H locs ls w hl hf; cases hf
      | succ n ih =>
        intro v4 v5 now_6 landed_7 landedIn_8 stepped_9 H locs ls w hl hf
        rw [fX6_kinds_L14] at hf
        refine lv_iload_n C.1 C.2.1 (dk_at dkX6_kinds 10 rfl) rfl (lv_at hl 0 rfl) ?_
        refine lv_iconst (v := 4) C.1 C.2.1 (dk_at dkX6_kinds 11 rfl) (by decide) ?_
        refine lv_icmp_ge (tgt := 40) C.1 C.2.1 (dk_at dkX6_kinds 12 rfl) (by decide) (fun c11 => ?_) (fun c11 => ?_)
        · have hf := (if_pos c11).symm.trans hf
          exact hKe v4 v5 now_6 landed_7 landedIn_8 stepped_9 _ _ _ w (lv_sub hl [1] rfl) hf
        · have hf := (if_neg c11).symm.trans hf
          refine lv_iload_n C.1 C.2.1 (dk_at dkX6_kinds 13 rfl) rfl (lv_at hl 1 rfl) ?_
          refine lv_aload_n C.1 C.2.1 (dk_at dkX6_kinds 14 rfl) rfl (lv_at hl 2 rfl) ?_
          refine lv_iload_n C.1 C.2.1 (dk_at dkX6_kinds 15 rfl) rfl (lv_at hl 3 rfl) ?_
          refine lv_iconst (v := 0) C.1 C.2.1 (dk_at dkX6_kinds 16 rfl) (by decide) ?_
          refine lv_iload_n C.1 C.2.1 (dk_at dkX6_kinds 17 rfl) rfl (lv_at hl 0 rfl) ?_
          obtain ⟨r12, now_13, landed_14, landedIn_15, stepped_16, hq17, hf⟩ := bd5_at hf
          refine r_rwi (As := [.int p1, .int 0, .int v4]) (rest := [.int v5]) (wr := []) (ws' := wM g a_m st now_13 isKept hearers draft dHearers dWalls toldWinds tape taped pos frm sort value fault wrongAt landed_14 landedIn_15 stepped_16 isThere isAt isNext landSum heardSum allWays ways drawn lanes sizes cells torn before) C (kX6_isSoWith l g _ a_m st now_6 isKept hearers draft dHearers dWalls toldWinds tape taped pos frm sort value fault wrongAt landed_7 landedIn_8 stepped_9 isThere isAt isNext landSum heardSum allWays ways drawn lanes sizes cells torn before p1 0 v4 r12 now_13 landed_14 landedIn_15 stepped_16 hq17) (cwV0 C (inr36 _ (List.mem_of_getElem? (i := 16) rfl)) mwX6_isSoWith hdX6_isSoWith ⟨Nat.le_of_ble_eq_true rfl, Nat.le_of_ble_eq_true rfl⟩) hK w hA [0, 1, 2, 3, 4, 5, 6, 7, 8, 9, 10, 11, 12, 13, 14, 15, 16, 17] [] [0, 1, 2, 3, 4, 5, 6, 7, 8, 9, 10, 11, 12, 13, 14, 15, 16, 17] (by decide) rfl rfl (by decide) (by decide) rfl (by decide) rfl rfl rfl hl.1 rfl (Nat.le_of_ble_eq_true rfl) ⟨Nat.zero_le _, Nat.zero_le _⟩ (dk_at dkX6_kinds 18 rfl) (fun H locs w => ?_)
          obtain ⟨r18, hq19, hf⟩ := bd1_at hf
          refine r_st (As := [.int r12]) (rest := [.int v5]) C (kX6_flag l r12 r18 hq19) (cwS0 C (inr17 _ (List.mem_of_getElem? (i := 7) rfl)) mwX6_flag hdX6_flag ⟨Nat.le_of_ble_eq_true rfl, Nat.le_of_ble_eq_true rfl⟩) rfl hl.1 rfl (Nat.le_of_ble_eq_true rfl) ⟨Nat.zero_le _, Nat.zero_le _⟩ (dk_at dkX6_kinds 19 rfl) ?_
          refine lv_iload_n C.1 C.2.1 (dk_at dkX6_kinds 20 rfl) rfl (lv_at hl 0 rfl) ?_
          refine lv_ishl C.1 C.2.1 (dk_at dkX6_kinds 21 rfl) ?_
          refine lv_ior C.1 C.2.1 (dk_at dkX6_kinds 22 rfl) ?_
          refine lv_topi (fun x20 ex20 => ?_)
          have hf := nm_at ex20 hf
          refine lv_istore_n (lv' := [(2, .int x20), (3, .int v4), (0, .ref (a_m 0)), (1, .int p1)]) C.1 C.2.1 (dk_at dkX6_kinds 23 rfl) rfl hl (by decide) rfl (fun ls hl => ?_)
          obtain ⟨x21, ex21⟩ : ∃ z : Int32, z = v4 + 1 := ⟨_, rfl⟩
          have hf := nm_at ex21 hf
          refine lv_iinc (v := x21) (lv' := [(3, .int x21), (2, .int x20), (0, .ref (a_m 0)), (1, .int p1)]) C.1 C.2.1 (dk_at dkX6_kinds 24 rfl) hl (k := 1) rfl (by rw [ex21]; rfl) (by decide) rfl (fun ls hl => ?_)
          refine lv_goto (tgt := 14) C.1 C.2.1 (dk_at dkX6_kinds 25 rfl) (by decide) ?_
          exact ih x21 x20 now_13 landed_14 landedIn_15 stepped_16 _ _ _ w (lv_sub hl [0, 1, 2, 3] rfl) hf
    refine L10 _ ?_ 4096 0 0 now landed landedIn stepped _ _ _ w (lv_sub hl [0, 1, 2, 3] rfl) hf
    clear hf
    intro v4 v5 now_6 landed_7 landedIn_8 stepped_9 H locs ls w hl hf
    refine lv_iload_n C.1 C.2.1 (dk_at dkX6_kinds 26 rfl) rfl (lv_at hl 0 rfl) ?_
    cases hf
    exact fin _ _ _ _ _ (dk_at dkX6_kinds 27 rfl) rfl w
  · have hf := (if_pos c3).symm.trans hf
    refine lv_iconst (v := (-1)) C.1 C.2.1 (dk_at dkX6_kinds 4 rfl) (by decide) ?_
    cases hf
    exact fin _ _ _ _ _ (dk_at dkX6_kinds 5 rfl) rfl w
-- X6.forces
abbrev tbX6_forces : List (Nat × Instr × Nat) := [(0, .aload_n 0, 1), (1, .iload_n 1, 1), (2, .invokevirtual 214, 3), (5, .ifCond .ne 5, 3), (8, .iconst (-1), 1), (9, .ireturn, 1), (10, .iconst 0, 1), (11, .istore_n 2, 1), (12, .iconst 1, 1), (13, .istore_n 3, 1), (14, .iload_n 3, 1), (15, .bipush 9, 2), (17, .if_icmp .gt 24, 3), (20, .iload_n 2, 1), (21, .aload_n 0, 1), (22, .iload_n 1, 1), (23, .iconst 3, 1), (24, .iload_n 3, 1), (25, .invokevirtual 296, 3), (28, .invokestatic 207, 3), (31, .iload_n 3, 1), (32, .ishl, 1), (33, .ior, 1), (34, .istore_n 2, 1), (35, .iinc 3 1, 3), (38, .goto (-24), 3), (41, .iload_n 2, 1), (42, .ireturn, 1)]
theorem dkX6_forces : dk cX6_forces tbX6_forces := dk_of (by decide +kernel)
abbrev cdX6_forces : Cond := Cond.code yX6_forces cX6_forces 4 (some .int)
abbrev rmX6_forces : Room := { frames := 5, cells := 0, slots := 0, locals := 122 }
theorem mwX6_forces : Cond.instanceMethod yX6_forces ∈ wsL_law ∧ Cond.selects RX6 yX6_forces yX6_forces ∈ wsL_law ∧ Cond.initialized RX6 ∈ wsL_law ∧ cdX6_forces ∈ wsL_law := ⟨inr37 _ (List.mem_of_getElem? (i := 1) rfl), inr37 _ (List.mem_of_getElem? (i := 2) rfl), inr1 _ (List.mem_of_getElem? (i := 5) rfl), inr37 _ (List.mem_of_getElem? (i := 3) rfl)⟩
theorem hdX6_forces : yX6_forces.cls = RX6 ∧ yX6_forces.cls ≠ "java/lang/invoke/MethodHandle" ∧ yX6_forces.cls ≠ "java/lang/invoke/VarHandle" ∧ (parseMethodDescriptor yX6_forces.desc).map (fun d => d.parameters.length) = some 1 := by decide +kernel
set_option maxHeartbeats 4000000 in
set_option maxRecDepth 100000 in
theorem kX6_forces (l : Launch) (g : Gx) (sz : Nat) (a_m : Nat → Nat) (st : AI) (now : AI) (isKept : AI) (hearers : Int32) (draft : AI) (dHearers : Int32) (dWalls : Int32) (toldWinds : Int32) (tape : AI) (taped : Int32) (pos : Int32) (frm : Int32) (sort : Int32) (value : Int32) (fault : Int32) (wrongAt : Int32) (landed : AI) (landedIn : AI) (stepped : AI) (isThere : AI) (isAt : AI) (isNext : AI) (landSum : Int64) (heardSum : Int64) (allWays : Int64) (ways : AI) (drawn : AI) (lanes : AI) (sizes : AI) (cells : AI) (torn : Int32) (before : AI) (p1 : Int32) (res : Int32) (now_o : AI) (landed_o : AI) (landedIn_o : AI) (stepped_o : AI) (hf : fX6_forces p1 st now landed landedIn stepped = some (res, now_o, landed_o, landedIn_o, stepped_o)) : Met l yX6_forces (cdX6_forces :: wsL_law) rmX6_forces (va_Pc [.ref (a_m 0), .int p1] (RWp g sz (wM g a_m st now isKept hearers draft dHearers dWalls toldWinds tape taped pos frm sort value fault wrongAt landed landedIn stepped isThere isAt isNext landSum heardSum allWays ways drawn lanes sizes cells torn before))) (va_Qi (fun x (_ : Unit) => x = res) (fun _ => RWq g (va_A (wM g a_m st now isKept hearers draft dHearers dWalls toldWinds tape taped pos frm sort value fault wrongAt landed landedIn stepped isThere isAt isNext landSum heardSum allWays ways drawn lanes sizes cells torn before) sz) (wM g a_m st now_o isKept hearers draft dHearers dWalls toldWinds tape taped pos frm sort value fault wrongAt landed_o landedIn_o stepped_o isThere isAt isNext landSum heardSum allWays ways drawn lanes sizes cells torn before)) (va_A (wM g a_m st now isKept hearers draft dHearers dWalls toldWinds tape taped pos frm sort value fault wrongAt landed landedIn stepped isThere isAt isNext landSum heardSum allWays ways drawn lanes sizes cells torn before) sz)) 0 0 (va_A (wM g a_m st now isKept hearers draft dHearers dWalls toldWinds tape taped pos frm sort value fault wrongAt landed landedIn stepped isThere isAt isNext landSum heardSum allWays ways drawn lanes sizes cells torn before) sz) := by
  refine Met_rwi (cc := cX6_forces) (maxL := 4) (by decide) rfl (Nat.le_of_ble_eq_true rfl) ?_
  intro P E Z Mi AR BE ME CO A Q C hK hA fin w ls hl
  have hl : lv_has ls 4 [(0, .ref (a_m 0)), (1, .int p1)] := hl
  unfold fX6_forces at hf
  refine lv_aload_n C.1 C.2.1 (dk_at dkX6_forces 0 rfl) rfl (lv_at hl 0 rfl) ?_
  refine lv_iload_n C.1 C.2.1 (dk_at dkX6_forces 1 rfl) rfl (lv_at hl 1 rfl) ?_
  obtain ⟨r1, hq2, hf⟩ := bd1_at hf
  refine r_roV (As := [.int p1]) (rest := []) C (kX6_isSaying l g a_m st now isKept hearers draft dHearers dWalls toldWinds tape taped pos frm sort value fault wrongAt landed landedIn stepped isThere isAt isNext landSum heardSum allWays ways drawn lanes sizes cells torn before p1 r1 hq2) (cwV0 C (inr18 _ (List.mem_of_getElem? (i := 10) rfl)) mwX6_isSaying hdX6_isSaying ⟨Nat.le_of_ble_eq_true rfl, Nat.le_of_ble_eq_true rfl⟩) hK w.1 rfl rfl rfl hl.1 rfl (Nat.le_of_ble_eq_true rfl) ⟨Nat.zero_le _, Nat.zero_le _⟩ (dk_at dkX6_forces 2 rfl) ?_
  refine lv_if_ne (tgt := 10) C.1 C.2.1 (dk_at dkX6_forces 3 rfl) (by decide) (fun c3 => ?_) (fun c3 => ?_)
  · have hf := (if_neg c3).symm.trans hf
    refine lv_iconst (v := 0) C.1 C.2.1 (dk_at dkX6_forces 6 rfl) (by decide) ?_
    refine lv_istore_n (lv' := [(2, .int 0), (0, .ref (a_m 0)), (1, .int p1)]) C.1 C.2.1 (dk_at dkX6_forces 7 rfl) rfl hl (by decide) rfl (fun ls hl => ?_)
    refine lv_iconst (v := 1) C.1 C.2.1 (dk_at dkX6_forces 8 rfl) (by decide) ?_
    refine lv_istore_n (lv' := [(3, .int 1), (2, .int 0), (0, .ref (a_m 0)), (1, .int p1)]) C.1 C.2.1 (dk_at dkX6_forces 9 rfl) rfl hl (by decide) rfl (fun ls hl => ?_)
    have L10 : ∀ (K : Int32 → Int32 → AI → AI → AI → AI → Option (Int32 × AI × AI × AI × AI)), (∀ (v4 : Int32) (v5 : Int32) (now_6 : AI) (landed_7 : AI) (landedIn_8 : AI) (stepped_9 : AI) (H : Heap) (locs : List Loc) (ls : Array Slot), Wd g A Z.heap (wM g a_m st now_6 isKept hearers draft dHearers dWalls toldWinds tape taped pos frm sort value fault wrongAt landed_7 landedIn_8 stepped_9 isThere isAt isNext landSum heardSum allWays ways drawn lanes sizes cells torn before) H locs → lv_has ls 4 [(2, .int v5)] → K v4 v5 now_6 landed_7 landedIn_8 stepped_9 = some (res, now_o, landed_o, landedIn_o, stepped_o) → W P l E rmX6_forces Z Mi AR BE ME CO H locs 0 0 Q (F0 Mi 41 ls [])) → ∀ (n : Nat), ∀ (v4 : Int32) (v5 : Int32) (now_6 : AI) (landed_7 : AI) (landedIn_8 : AI) (stepped_9 : AI) (H : Heap) (locs : List Loc) (ls : Array Slot), Wd g A Z.heap (wM g a_m st now_6 isKept hearers draft dHearers dWalls toldWinds tape taped pos frm sort value fault wrongAt landed_7 landedIn_8 stepped_9 isThere isAt isNext landSum heardSum allWays ways drawn lanes sizes cells torn before) H locs → lv_has ls 4 [(3, .int v4), (2, .int v5), (0, .ref (a_m 0)), (1, .int p1)] → fX6_forces_L14 st p1 K n v4 v5 now_6 landed_7 landedIn_8 stepped_9 = some (res, now_o, landed_o, landedIn_o, stepped_o) → W P l E rmX6_forces Z Mi AR BE ME CO H locs 0 0 Q (F0 Mi 14 ls []) := by
      intro K hKe n
      induction n with
      | zero => intro v4 v5 now_6 landed_7 landedIn_8 stepped_9 H locs ls w hl hf; cases hf
      | succ n ih =>
        intro v4 v5 now_6 landed_7 landedIn_8 stepped_9 H locs ls w hl hf
        rw [fX6_forces_L14] at hf
        refine lv_iload_n C.1 C.2.1 (dk_at dkX6_forces 10 rfl) rfl (lv_at hl 0 rfl) ?_
        refine lv_bipush (v := 9) C.1 C.2.1 (dk_at dkX6_forces 11 rfl) (by decide) ?_
        refine lv_icmp_gt (tgt := 41) C.1 C.2.1 (dk_at dkX6_forces 12 rfl) (by decide) (fun c11 => ?_) (fun c11 => ?_)
        · have hf := (if_pos c11).symm.trans hf
          exact hKe v4 v5 now_6 landed_7 landedIn_8 stepped_9 _ _ _ w (lv_sub hl [1] rfl) hf
        · have hf := (if_neg c11).symm.trans hf
          refine lv_iload_n C.1 C.2.1 (dk_at dkX6_forces 13 rfl) rfl (lv_at hl 1 rfl) ?_
          refine lv_aload_n C.1 C.2.1 (dk_at dkX6_forces 14 rfl) rfl (lv_at hl 2 rfl) ?_
          refine lv_iload_n C.1 C.2.1 (dk_at dkX6_forces 15 rfl) rfl (lv_at hl 3 rfl) ?_
          refine lv_iconst (v := 3) C.1 C.2.1 (dk_at dkX6_forces 16 rfl) (by decide) ?_
          refine lv_iload_n C.1 C.2.1 (dk_at dkX6_forces 17 rfl) rfl (lv_at hl 0 rfl) ?_
          obtain ⟨r12, now_13, landed_14, landedIn_15, stepped_16, hq17, hf⟩ := bd5_at hf
          refine r_rwi (As := [.int p1, .int 3, .int v4]) (rest := [.int v5]) (wr := []) (ws' := wM g a_m st now_13 isKept hearers draft dHearers dWalls toldWinds tape taped pos frm sort value fault wrongAt landed_14 landedIn_15 stepped_16 isThere isAt isNext landSum heardSum allWays ways drawn lanes sizes cells torn before) C (kX6_isSoWith l g _ a_m st now_6 isKept hearers draft dHearers dWalls toldWinds tape taped pos frm sort value fault wrongAt landed_7 landedIn_8 stepped_9 isThere isAt isNext landSum heardSum allWays ways drawn lanes sizes cells torn before p1 3 v4 r12 now_13 landed_14 landedIn_15 stepped_16 hq17) (cwV0 C (inr36 _ (List.mem_of_getElem? (i := 16) rfl)) mwX6_isSoWith hdX6_isSoWith ⟨Nat.le_of_ble_eq_true rfl, Nat.le_of_ble_eq_true rfl⟩) hK w hA [0, 1, 2, 3, 4, 5, 6, 7, 8, 9, 10, 11, 12, 13, 14, 15, 16, 17] [] [0, 1, 2, 3, 4, 5, 6, 7, 8, 9, 10, 11, 12, 13, 14, 15, 16, 17] (by decide) rfl rfl (by decide) (by decide) rfl (by decide) rfl rfl rfl hl.1 rfl (Nat.le_of_ble_eq_true rfl) ⟨Nat.zero_le _, Nat.zero_le _⟩ (dk_at dkX6_forces 18 rfl) (fun H locs w => ?_)
          obtain ⟨r18, hq19, hf⟩ := bd1_at hf
          refine r_st (As := [.int r12]) (rest := [.int v5]) C (kX6_flag l r12 r18 hq19) (cwS0 C (inr17 _ (List.mem_of_getElem? (i := 7) rfl)) mwX6_flag hdX6_flag ⟨Nat.le_of_ble_eq_true rfl, Nat.le_of_ble_eq_true rfl⟩) rfl hl.1 rfl (Nat.le_of_ble_eq_true rfl) ⟨Nat.zero_le _, Nat.zero_le _⟩ (dk_at dkX6_forces 19 rfl) ?_
          refine lv_iload_n C.1 C.2.1 (dk_at dkX6_forces 20 rfl) rfl (lv_at hl 0 rfl) ?_
          refine lv_ishl C.1 C.2.1 (dk_at dkX6_forces 21 rfl) ?_
          refine lv_ior C.1 C.2.1 (dk_at dkX6_forces 22 rfl) ?_
          refine lv_topi (fun x20 ex20 => ?_)
          have hf := nm_at ex20 hf
          refine lv_istore_n (lv' := [(2, .int x20), (3, .int v4), (0, .ref (a_m 0)), (1, .int p1)]) C.1 C.2.1 (dk_at dkX6_forces 23 rfl) rfl hl (by decide) rfl (fun ls hl => ?_)
          obtain ⟨x21, ex21⟩ : ∃ z : Int32, z = v4 + 1 := ⟨_, rfl⟩
          have hf := nm_at ex21 hf
          refine lv_iinc (v := x21) (lv' := [(3, .int x21), (2, .int x20), (0, .ref (a_m 0)), (1, .int p1)]) C.1 C.2.1 (dk_at dkX6_forces 24 rfl) hl (k := 1) rfl (by rw [ex21]; rfl) (by decide) rfl (fun ls hl => ?_)
          refine lv_goto (tgt := 14) C.1 C.2.1 (dk_at dkX6_forces 25 rfl) (by decide) ?_
          exact ih x21 x20 now_13 landed_14 landedIn_15 stepped_16 _ _ _ w (lv_sub hl [0, 1, 2, 3] rfl) hf
    refine L10 _ ?_ 4096 1 0 now landed landedIn stepped _ _ _ w (lv_sub hl [0, 1, 2, 3] rfl) hf
    clear hf
    intro v4 v5 now_6 landed_7 landedIn_8 stepped_9 H locs ls w hl hf
    refine lv_iload_n C.1 C.2.1 (dk_at dkX6_forces 26 rfl) rfl (lv_at hl 0 rfl) ?_
    cases hf
    exact fin _ _ _ _ _ (dk_at dkX6_forces 27 rfl) rfl w
  · have hf := (if_pos c3).symm.trans hf
    refine lv_iconst (v := (-1)) C.1 C.2.1 (dk_at dkX6_forces 4 rfl) (by decide) ?_
    cases hf
    exact fin _ _ _ _ _ (dk_at dkX6_forces 5 rfl) rfl w
-- X6.froms
abbrev tbX6_froms : List (Nat × Instr × Nat) := [(0, .aload_n 0, 1), (1, .iload_n 1, 1), (2, .invokevirtual 214, 3), (5, .ifCond .eq 10, 3), (8, .iload_n 2, 1), (9, .invokestatic 243, 3), (12, .ifCond .ne 5, 3), (15, .iconst (-1), 1), (16, .ireturn, 1), (17, .iconst 0, 1), (18, .istore_n 3, 1), (19, .bipush (-4), 2), (21, .istore 4, 2), (23, .iconst 0, 1), (24, .istore 5, 2), (26, .iload 5, 2), (28, .bipush 64, 2), (30, .if_icmp .ge 42, 3), (33, .aload_n 0, 1), (34, .iload_n 1, 1), (35, .iconst 1, 1), (36, .iload 5, 2), (38, .invokestatic 249, 3), (41, .invokevirtual 296, 3), (44, .ifCond .eq 22, 3), (47, .iload_n 3, 1), (48, .ifCond .ne 11, 3), (51, .iload 5, 2), (53, .invokestatic 249, 3), (56, .goto 5, 3), (59, .iload 4, 2), (61, .istore 4, 2), (63, .iinc 3 1, 3), (66, .iinc 5 1, 3), (69, .goto (-43), 3), (72, .iload_n 2, 1), (73, .ifCond .ne 7, 3), (76, .iload_n 3, 1), (77, .goto 5, 3), (80, .iload 4, 2), (82, .ireturn, 1)]
theorem dkX6_froms : dk cX6_froms tbX6_froms := dk_of (by decide +kernel)
abbrev cdX6_froms : Cond := Cond.code yX6_froms cX6_froms 6 (some .int)
abbrev rmX6_froms : Room := { frames := 5, cells := 0, slots := 0, locals := 122 }
theorem mwX6_froms : Cond.instanceMethod yX6_froms ∈ wsL_law ∧ Cond.selects RX6 yX6_froms yX6_froms ∈ wsL_law ∧ Cond.initialized RX6 ∈ wsL_law ∧ cdX6_froms ∈ wsL_law := ⟨inr37 _ (List.mem_of_getElem? (i := 9) rfl), inr37 _ (List.mem_of_getElem? (i := 10) rfl), inr1 _ (List.mem_of_getElem? (i := 5) rfl), inr37 _ (List.mem_of_getElem? (i := 11) rfl)⟩
theorem hdX6_froms : yX6_froms.cls = RX6 ∧ yX6_froms.cls ≠ "java/lang/invoke/MethodHandle" ∧ yX6_froms.cls ≠ "java/lang/invoke/VarHandle" ∧ (parseMethodDescriptor yX6_froms.desc).map (fun d => d.parameters.length) = some 2 := by decide +kernel
set_option maxHeartbeats 4000000 in
set_option maxRecDepth 100000 in
theorem kX6_froms (l : Launch) (g : Gx) (sz : Nat) (a_m : Nat → Nat) (st : AI) (now : AI) (isKept : AI) (hearers : Int32) (draft : AI) (dHearers : Int32) (dWalls : Int32) (toldWinds : Int32) (tape : AI) (taped : Int32) (pos : Int32) (frm : Int32) (sort : Int32) (value : Int32) (fault : Int32) (wrongAt : Int32) (landed : AI) (landedIn : AI) (stepped : AI) (isThere : AI) (isAt : AI) (isNext : AI) (landSum : Int64) (heardSum : Int64) (allWays : Int64) (ways : AI) (drawn : AI) (lanes : AI) (sizes : AI) (cells : AI) (torn : Int32) (before : AI) (p1 : Int32) (p2 : Int32) (res : Int32) (now_o : AI) (landed_o : AI) (landedIn_o : AI) (stepped_o : AI) (hf : fX6_froms p1 p2 st now landed landedIn stepped = some (res, now_o, landed_o, landedIn_o, stepped_o)) : Met l yX6_froms (cdX6_froms :: wsL_law) rmX6_froms (va_Pc [.ref (a_m 0), .int p1, .int p2] (RWp g sz (wM g a_m st now isKept hearers draft dHearers dWalls toldWinds tape taped pos frm sort value fault wrongAt landed landedIn stepped isThere isAt isNext landSum heardSum allWays ways drawn lanes sizes cells torn before))) (va_Qi (fun x (_ : Unit) => x = res) (fun _ => RWq g (va_A (wM g a_m st now isKept hearers draft dHearers dWalls toldWinds tape taped pos frm sort value fault wrongAt landed landedIn stepped isThere isAt isNext landSum heardSum allWays ways drawn lanes sizes cells torn before) sz) (wM g a_m st now_o isKept hearers draft dHearers dWalls toldWinds tape taped pos frm sort value fault wrongAt landed_o landedIn_o stepped_o isThere isAt isNext landSum heardSum allWays ways drawn lanes sizes cells torn before)) (va_A (wM g a_m st now isKept hearers draft dHearers dWalls toldWinds tape taped pos frm sort value fault wrongAt landed landedIn stepped isThere isAt isNext landSum heardSum allWays ways drawn lanes sizes cells torn before) sz)) 0 0 (va_A (wM g a_m st now isKept hearers draft dHearers dWalls toldWinds tape taped pos frm sort value fault wrongAt landed landedIn stepped isThere isAt isNext landSum heardSum allWays ways drawn lanes sizes cells torn before) sz) := by
  refine Met_rwi (cc := cX6_froms) (maxL := 6) (by decide) rfl (Nat.le_of_ble_eq_true rfl) ?_
  intro P E Z Mi AR BE ME CO A Q C hK hA fin w ls hl
  have hl : lv_has ls 6 [(0, .ref (a_m 0)), (1, .int p1), (2, .int p2)] := hl
  unfold fX6_froms at hf
  refine lv_aload_n C.1 C.2.1 (dk_at dkX6_froms 0 rfl) rfl (lv_at hl 0 rfl) ?_
  refine lv_iload_n C.1 C.2.1 (dk_at dkX6_froms 1 rfl) rfl (lv_at hl 1 rfl) ?_
  obtain ⟨r1, hq2, hf⟩ := bd1_at hf
  refine r_roV (As := [.int p1]) (rest := []) C (kX6_isSaying l g a_m st now isKept hearers draft dHearers dWalls toldWinds tape taped pos frm sort value fault wrongAt landed landedIn stepped isThere isAt isNext landSum heardSum allWays ways drawn lanes sizes cells torn before p1 r1 hq2) (cwV0 C (inr18 _ (List.mem_of_getElem? (i := 10) rfl)) mwX6_isSaying hdX6_isSaying ⟨Nat.le_of_ble_eq_true rfl, Nat.le_of_ble_eq_true rfl⟩) hK w.1 rfl rfl rfl hl.1 rfl (Nat.le_of_ble_eq_true rfl) ⟨Nat.zero_le _, Nat.zero_le _⟩ (dk_at dkX6_froms 2 rfl) ?_
  refine lv_if_eq (tgt := 15) C.1 C.2.1 (dk_at dkX6_froms 3 rfl) (by decide) (fun c3 => ?_) (fun c3 => ?_)
  · have hf := (if_pos c3).symm.trans hf
    refine lv_iconst (v := (-1)) C.1 C.2.1 (dk_at dkX6_froms 7 rfl) (by decide) ?_
    cases hf
    exact fin _ _ _ _ _ (dk_at dkX6_froms 8 rfl) rfl w
  · have hf := (if_neg c3).symm.trans hf
    refine lv_iload_n C.1 C.2.1 (dk_at dkX6_froms 4 rfl) rfl (lv_at hl 2 rfl) ?_
    obtain ⟨r4, hq5, hf⟩ := bd1_at hf
    refine r_st (As := [.int p2]) (rest := []) C (kX6_isPart l p2 r4 hq5) (cwS0 C (inr26 _ (List.mem_of_getElem? (i := 22) rfl)) mwX6_isPart hdX6_isPart ⟨Nat.le_of_ble_eq_true rfl, Nat.le_of_ble_eq_true rfl⟩) rfl hl.1 rfl (Nat.le_of_ble_eq_true rfl) ⟨Nat.zero_le _, Nat.zero_le _⟩ (dk_at dkX6_froms 5 rfl) ?_
    refine lv_if_ne (tgt := 17) C.1 C.2.1 (dk_at dkX6_froms 6 rfl) (by decide) (fun c6 => ?_) (fun c6 => ?_)
    · have hf := (if_neg c6).symm.trans hf
      refine lv_iconst (v := 0) C.1 C.2.1 (dk_at dkX6_froms 9 rfl) (by decide) ?_
      refine lv_istore_n (lv' := [(3, .int 0), (0, .ref (a_m 0)), (1, .int p1), (2, .int p2)]) C.1 C.2.1 (dk_at dkX6_froms 10 rfl) rfl hl (by decide) rfl (fun ls hl => ?_)
      refine lv_bipush (v := (-4)) C.1 C.2.1 (dk_at dkX6_froms 11 rfl) (by decide) ?_
      refine lv_istore (lv' := [(4, .int (-4)), (3, .int 0), (0, .ref (a_m 0)), (1, .int p1), (2, .int p2)]) C.1 C.2.1 (dk_at dkX6_froms 12 rfl) hl (by decide) rfl (fun ls hl => ?_)
      refine lv_iconst (v := 0) C.1 C.2.1 (dk_at dkX6_froms 13 rfl) (by decide) ?_
      refine lv_istore (lv' := [(5, .int 0), (4, .int (-4)), (3, .int 0), (0, .ref (a_m 0)), (1, .int p1), (2, .int p2)]) C.1 C.2.1 (dk_at dkX6_froms 14 rfl) hl (by decide) rfl (fun ls hl => ?_)
      have L14 : ∀ (K : Int32 → Int32 → Int32 → AI → AI → AI → AI → Option (Int32 × AI × AI × AI × AI)), (∀ (v7 : Int32) (v8 : Int32) (v9 : Int32) (now_10 : AI) (landed_11 : AI) (landedIn_12 : AI) (stepped_13 : AI) (H : Heap) (locs : List Loc) (ls : Array Slot), Wd g A Z.heap (wM g a_m st now_10 isKept hearers draft dHearers dWalls toldWinds tape taped pos frm sort value fault wrongAt landed_11 landedIn_12 stepped_13 isThere isAt isNext landSum heardSum allWays ways drawn lanes sizes cells torn before) H locs → lv_has ls 6 [(4, .int v8), (3, .int v9), (2, .int p2)] → K v7 v8 v9 now_10 landed_11 landedIn_12 stepped_13 = some (res, now_o, landed_o, landedIn_o, stepped_o) → W P l E rmX6_froms Z Mi AR BE ME CO H locs 0 0 Q (F0 Mi 72 ls [])) → ∀ (n : Nat), ∀ (v7 : Int32) (v8 : Int32) (v9 : Int32) (now_10 : AI) (landed_11 : AI) (landedIn_12 : AI) (stepped_13 : AI) (H : Heap) (locs : List Loc) (ls : Array Slot), Wd g A Z.heap (wM g a_m st now_10 isKept hearers draft dHearers dWalls toldWinds tape taped pos frm sort value fault wrongAt landed_11 landedIn_12 stepped_13 isThere isAt isNext landSum heardSum allWays ways drawn lanes sizes cells torn before) H locs → lv_has ls 6 [(5, .int v7), (4, .int v8), (3, .int v9), (0, .ref (a_m 0)), (1, .int p1), (2, .int p2)] → fX6_froms_L26 st p1 K n v7 v8 v9 now_10 landed_11 landedIn_12 stepped_13 = some (res, now_o, landed_o, landedIn_o, stepped_o) → W P l E rmX6_froms Z Mi AR BE ME CO H locs 0 0 Q (F0 Mi 26 ls []) := by
        intro K hKe n
        induction n with
        | zero => intro v7 v8 v9 now_10 landed_11 landedIn_12 stepped_13 H locs ls w hl hf; cases hf
        | succ n ih =>
          intro v7 v8 v9 now_10 landed_11 landedIn_12 stepped_13 H locs ls w hl hf
          rw [fX6_froms_L26] at hf
          refine lv_iload C.1 C.2.1 (dk_at dkX6_froms 15 rfl) (lv_at hl 0 rfl) ?_
          refine lv_bipush (v := 64) C.1 C.2.1 (dk_at dkX6_froms 16 rfl) (by decide) ?_
          refine lv_icmp_ge (tgt := 72) C.1 C.2.1 (dk_at dkX6_froms 17 rfl) (by decide) (fun c15 => ?_) (fun c15 => ?_)
          · have hf := (if_pos c15).symm.trans hf
            exact hKe v7 v8 v9 now_10 landed_11 landedIn_12 stepped_13 _ _ _ w (lv_sub hl [1, 2, 5] rfl) hf
          · have hf := (if_neg c15).symm.trans hf
            refine lv_aload_n C.1 C.2.1 (dk_at dkX6_froms 18 rfl) rfl (lv_at hl 3 rfl) ?_
            refine lv_iload_n C.1 C.2.1 (dk_at dkX6_froms 19 rfl) rfl (lv_at hl 4 rfl) ?_
            refine lv_iconst (v := 1) C.1 C.2.1 (dk_at dkX6_froms 20 rfl) (by decide) ?_
            refine lv_iload C.1 C.2.1 (dk_at dkX6_froms 21 rfl) (lv_at hl 0 rfl) ?_
            obtain ⟨r16, hq17, hf⟩ := bd1_at hf
            refine r_st (As := [.int v7]) (rest := [.int 1, .int p1, .ref (a_m 0)]) C (kX6_cellAt l v7 r16 hq17) (cwS0 C (inr29 _ (List.mem_of_getElem? (i := 1) rfl)) mwX6_cellAt hdX6_cellAt ⟨Nat.le_of_ble_eq_true rfl, Nat.le_of_ble_eq_true rfl⟩) rfl hl.1 rfl (Nat.le_of_ble_eq_true rfl) ⟨Nat.zero_le _, Nat.zero_le _⟩ (dk_at dkX6_froms 22 rfl) ?_
            obtain ⟨r18, now_19, landed_20, landedIn_21, stepped_22, hq23, hf⟩ := bd5_at hf
            refine r_rwi (As := [.int p1, .int 1, .int r16]) (rest := []) (wr := []) (ws' := wM g a_m st now_19 isKept hearers draft dHearers dWalls toldWinds tape taped pos frm sort value fault wrongAt landed_20 landedIn_21 stepped_22 isThere isAt isNext landSum heardSum allWays ways drawn lanes sizes cells torn before) C (kX6_isSoWith l g _ a_m st now_10 isKept hearers draft dHearers dWalls toldWinds tape taped pos frm sort value fault wrongAt landed_11 landedIn_12 stepped_13 isThere isAt isNext landSum heardSum allWays ways drawn lanes sizes cells torn before p1 1 r16 r18 now_19 landed_20 landedIn_21 stepped_22 hq23) (cwV0 C (inr36 _ (List.mem_of_getElem? (i := 16) rfl)) mwX6_isSoWith hdX6_isSoWith ⟨Nat.le_of_ble_eq_true rfl, Nat.le_of_ble_eq_true rfl⟩) hK w hA [0, 1, 2, 3, 4, 5, 6, 7, 8, 9, 10, 11, 12, 13, 14, 15, 16, 17] [] [0, 1, 2, 3, 4, 5, 6, 7, 8, 9, 10, 11, 12, 13, 14, 15, 16, 17] (by decide) rfl rfl (by decide) (by decide) rfl (by decide) rfl rfl rfl hl.1 rfl (Nat.le_of_ble_eq_true rfl) ⟨Nat.zero_le _, Nat.zero_le _⟩ (dk_at dkX6_froms 23 rfl) (fun H locs w => ?_)
            refine lv_if_eq (tgt := 66) C.1 C.2.1 (dk_at dkX6_froms 24 rfl) (by decide) (fun c24 => ?_) (fun c24 => ?_)
            · have hf := (if_pos c24).symm.trans hf
              obtain ⟨x25, ex25⟩ : ∃ z : Int32, z = v7 + 1 := ⟨_, rfl⟩
              have hf := nm_at ex25 hf
              refine lv_iinc (v := x25) (lv' := [(5, .int x25), (4, .int v8), (3, .int v9), (0, .ref (a_m 0)), (1, .int p1), (2, .int p2)]) C.1 C.2.1 (dk_at dkX6_froms 33 rfl) hl (k := 0) rfl (by rw [ex25]; rfl) (by decide) rfl (fun ls hl => ?_)
              refine lv_goto (tgt := 26) C.1 C.2.1 (dk_at dkX6_froms 34 rfl) (by decide) ?_
              exact ih x25 v8 v9 now_19 landed_20 landedIn_21 stepped_22 _ _ _ w (lv_sub hl [0, 1, 2, 3, 4, 5] rfl) hf
            · have hf := (if_neg c24).symm.trans hf
              refine lv_iload_n C.1 C.2.1 (dk_at dkX6_froms 25 rfl) rfl (lv_at hl 2 rfl) ?_
              refine lv_if_ne (tgt := 59) C.1 C.2.1 (dk_at dkX6_froms 26 rfl) (by decide) (fun c26 => ?_) (fun c26 => ?_)
              · have hf := (if_neg c26).symm.trans hf
                refine lv_iload C.1 C.2.1 (dk_at dkX6_froms 30 rfl) (lv_at hl 1 rfl) ?_
                refine lv_istore (lv' := [(4, .int v8), (5, .int v7), (3, .int v9), (0, .ref (a_m 0)), (1, .int p1), (2, .int p2)]) C.1 C.2.1 (dk_at dkX6_froms 31 rfl) hl (by decide) rfl (fun ls hl => ?_)
                obtain ⟨x27, ex27⟩ : ∃ z : Int32, z = v9 + 1 := ⟨_, rfl⟩
                have hf := nm_at ex27 hf
                refine lv_iinc (v := x27) (lv' := [(3, .int x27), (4, .int v8), (5, .int v7), (0, .ref (a_m 0)), (1, .int p1), (2, .int p2)]) C.1 C.2.1 (dk_at dkX6_froms 32 rfl) hl (k := 2) rfl (by rw [ex27]; rfl) (by decide) rfl (fun ls hl => ?_)
                obtain ⟨x28, ex28⟩ : ∃ z : Int32, z = v7 + 1 := ⟨_, rfl⟩
                have hf := nm_at ex28 hf
                refine lv_iinc (v := x28) (lv' := [(5, .int x28), (3, .int x27), (4, .int v8), (0, .ref (a_m 0)), (1, .int p1), (2, .int p2)]) C.1 C.2.1 (dk_at dkX6_froms 33 rfl) hl (k := 2) rfl (by rw [ex28]; rfl) (by decide) rfl (fun ls hl => ?_)
                refine lv_goto (tgt := 26) C.1 C.2.1 (dk_at dkX6_froms 34 rfl) (by decide) ?_
                exact ih x28 v8 x27 now_19 landed_20 landedIn_21 stepped_22 _ _ _ w (lv_sub hl [0, 2, 1, 3, 4, 5] rfl) hf
              · have hf := (if_pos c26).symm.trans hf
                refine lv_iload C.1 C.2.1 (dk_at dkX6_froms 27 rfl) (lv_at hl 0 rfl) ?_
                obtain ⟨r29, hq30, hf⟩ := bd1_at hf
                refine r_st (As := [.int v7]) (rest := []) C (kX6_cellAt l v7 r29 hq30) (cwS0 C (inr29 _ (List.mem_of_getElem? (i := 1) rfl)) mwX6_cellAt hdX6_cellAt ⟨Nat.le_of_ble_eq_true rfl, Nat.le_of_ble_eq_true rfl⟩) rfl hl.1 rfl (Nat.le_of_ble_eq_true rfl) ⟨Nat.zero_le _, Nat.zero_le _⟩ (dk_at dkX6_froms 28 rfl) ?_
                refine lv_goto (tgt := 61) C.1 C.2.1 (dk_at dkX6_froms 29 rfl) (by decide) ?_
                refine lv_istore (lv' := [(4, .int r29), (5, .int v7), (3, .int v9), (0, .ref (a_m 0)), (1, .int p1), (2, .int p2)]) C.1 C.2.1 (dk_at dkX6_froms 31 rfl) hl (by decide) rfl (fun ls hl => ?_)
                obtain ⟨x31, ex31⟩ : ∃ z : Int32, z = v9 + 1 := ⟨_, rfl⟩
                have hf := nm_at ex31 hf
                refine lv_iinc (v := x31) (lv' := [(3, .int x31), (4, .int r29), (5, .int v7), (0, .ref (a_m 0)), (1, .int p1), (2, .int p2)]) C.1 C.2.1 (dk_at dkX6_froms 32 rfl) hl (k := 2) rfl (by rw [ex31]; rfl) (by decide) rfl (fun ls hl => ?_)
                obtain ⟨x32, ex32⟩ : ∃ z : Int32, z = v7 + 1 := ⟨_, rfl⟩
                have hf := nm_at ex32 hf
                refine lv_iinc (v := x32) (lv' := [(5, .int x32), (3, .int x31), (4, .int r29), (0, .ref (a_m 0)), (1, .int p1), (2, .int p2)]) C.1 C.2.1 (dk_at dkX6_froms 33 rfl) hl (k := 2) rfl (by rw [ex32]; rfl) (by decide) rfl (fun ls hl => ?_)
                refine lv_goto (tgt := 26) C.1 C.2.1 (dk_at dkX6_froms 34 rfl) (by decide) ?_
                exact ih x32 r29 x31 now_19 landed_20 landedIn_21 stepped_22 _ _ _ w (lv_sub hl [0, 2, 1, 3, 4, 5] rfl) hf
      refine L14 _ ?_ 4096 0 (-4) 0 now landed landedIn stepped _ _ _ w (lv_sub hl [0, 1, 2, 3, 4, 5] rfl) hf
      clear hf
      intro v7 v8 v9 now_10 landed_11 landedIn_12 stepped_13 H locs ls w hl hf
      refine lv_iload_n C.1 C.2.1 (dk_at dkX6_froms 35 rfl) rfl (lv_at hl 2 rfl) ?_
      refine lv_if_ne (tgt := 80) C.1 C.2.1 (dk_at dkX6_froms 36 rfl) (by decide) (fun c33 => ?_) (fun c33 => ?_)
      · have hf := (if_neg c33).symm.trans hf
        refine lv_iload C.1 C.2.1 (dk_at dkX6_froms 39 rfl) (lv_at hl 0 rfl) ?_
        cases hf
        exact fin _ _ _ _ _ (dk_at dkX6_froms 40 rfl) rfl w
      · have hf := (if_pos c33).symm.trans hf
        refine lv_iload_n C.1 C.2.1 (dk_at dkX6_froms 37 rfl) rfl (lv_at hl 1 rfl) ?_
        refine lv_goto (tgt := 82) C.1 C.2.1 (dk_at dkX6_froms 38 rfl) (by decide) ?_
        cases hf
        exact fin _ _ _ _ _ (dk_at dkX6_froms 40 rfl) rfl w
    · have hf := (if_pos c6).symm.trans hf
      refine lv_iconst (v := (-1)) C.1 C.2.1 (dk_at dkX6_froms 7 rfl) (by decide) ?_
      cases hf
      exact fin _ _ _ _ _ (dk_at dkX6_froms 8 rfl) rfl w
-- X6.look
abbrev tbX6_look : List (Nat × Instr × Nat) := [(0, .aload_n 0, 1), (1, .iload_n 1, 1), (2, .invokevirtual 214, 3), (5, .ifCond .eq 10, 3), (8, .iload_n 2, 1), (9, .invokestatic 243, 3), (12, .ifCond .ne 5, 3), (15, .iconst (-1), 1), (16, .ireturn, 1), (17, .iconst 0, 1), (18, .istore_n 3, 1), (19, .bipush (-4), 2), (21, .istore 4, 2), (23, .iconst 0, 1), (24, .istore 5, 2), (26, .iload 5, 2), (28, .sipush 400, 3), (31, .if_icmp .ge 17, 3), (34, .aload_n 0, 1), (35, .getfield 44, 3), (38, .iload 5, 2), (40, .iconst 0, 1), (41, .iastore, 1), (42, .iinc 5 1, 3), (45, .goto (-19), 3), (48, .iconst 1, 1), (49, .istore 5, 2), (51, .iload 5, 2), (53, .bipush 9, 2), (55, .if_icmp .gt 66, 3), (58, .aload_n 0, 1), (59, .iload_n 1, 1), (60, .iconst 3, 1), (61, .iload 5, 2), (63, .invokevirtual 296, 3), (66, .ifCond .eq 49, 3), (69, .iinc 3 1, 3), (72, .iconst 0, 1), (73, .istore 6, 2), (75, .iload 6, 2), (77, .aload_n 0, 1), (78, .getfield 7, 3), (81, .bipush 43, 2), (83, .iaload, 1), (84, .if_icmp .ge 31, 3), (87, .aload_n 0, 1), (88, .getfield 44, 3), (91, .bipush 80, 2), (93, .iload 6, 2), (95, .imul, 1), (96, .aload_n 0, 1), (97, .getfield 26, 3), (100, .iload 6, 2), (102, .iaload, 1), (103, .iadd, 1), (104, .dup2, 1), (105, .iaload, 1), (106, .iconst 1, 1), (107, .iadd, 1), (108, .iastore, 1), (109, .iinc 6 1, 3), (112, .goto (-37), 3), (115, .iinc 5 1, 3), (118, .goto (-67), 3), (121, .iconst 0, 1), (122, .istore 5, 2), (124, .iload 5, 2), (126, .aload_n 0, 1), (127, .getfield 7, 3), (130, .bipush 43, 2), (132, .iaload, 1), (133, .if_icmp .ge 94, 3), (136, .iconst 0, 1), (137, .istore 6, 2), (139, .iconst 0, 1), (140, .istore 7, 2), (142, .iload 7, 2), (144, .bipush 80, 2), (146, .if_icmp .ge 47, 3), (149, .aload_n 0, 1), (150, .getfield 44, 3), (153, .bipush 80, 2), (155, .iload 5, 2), (157, .imul, 1), (158, .iload 7, 2), (160, .iadd, 1), (161, .iaload, 1), (162, .iload 6, 2), (164, .if_icmp .le 19, 3), (167, .aload_n 0, 1), (168, .getfield 44, 3), (171, .bipush 80, 2), (173, .iload 5, 2), (175, .imul, 1), (176, .iload 7, 2), (178, .iadd, 1), (179, .iaload, 1), (180, .goto 5, 3), (183, .iload 6, 2), (185, .istore 6, 2), (187, .iinc 7 1, 3), (190, .goto (-48), 3), (193, .iload 6, 2), (195, .iload_n 3, 1), (196, .if_icmp .ge 8, 3), (199, .iload 5, 2), (201, .goto 5, 3), (204, .iload 4, 2), (206, .istore 4, 2), (208, .iload 6, 2), (210, .iload_n 3, 1), (211, .if_icmp .ge 8, 3), (214, .iload 6, 2), (216, .goto 4, 3), (219, .iload_n 3, 1), (220, .istore_n 3, 1), (221, .iinc 5 1, 3), (224, .goto (-100), 3), (227, .iload 4, 2), (229, .bipush (-4), 2), (231, .if_icmp .ne 8, 3), (234, .bipush (-4), 2), (236, .goto 13, 3), (239, .iload_n 2, 1), (240, .ifCond .ne 8, 3), (243, .iload 4, 2), (245, .goto 4, 3), (248, .iload_n 3, 1), (249, .ireturn, 1)]
theorem dkX6_look : dk cX6_look tbX6_look := dk_of (by decide +kernel)
abbrev cdX6_look : Cond := Cond.code yX6_look cX6_look 8 (some .int)
abbrev rmX6_look : Room := { frames := 5, cells := 0, slots := 0, locals := 122 }
theorem mwX6_look : Cond.instanceMethod yX6_look ∈ wsL_law ∧ Cond.selects RX6 yX6_look yX6_look ∈ wsL_law ∧ Cond.initialized RX6 ∈ wsL_law ∧ cdX6_look ∈ wsL_law := ⟨inr38 _ (List.mem_of_getElem? (i := 0) rfl), inr38 _ (List.mem_of_getElem? (i := 1) rfl), inr1 _ (List.mem_of_getElem? (i := 5) rfl), inr38 _ (List.mem_of_getElem? (i := 2) rfl)⟩
theorem hdX6_look : yX6_look.cls = RX6 ∧ yX6_look.cls ≠ "java/lang/invoke/MethodHandle" ∧ yX6_look.cls ≠ "java/lang/invoke/VarHandle" ∧ (parseMethodDescriptor yX6_look.desc).map (fun d => d.parameters.length) = some 2 := by decide +kernel
set_option maxHeartbeats 4000000 in
set_option maxRecDepth 100000 in
theorem kX6_look (l : Launch) (g : Gx) (sz : Nat) (a_m : Nat → Nat) (st : AI) (now : AI) (isKept : AI) (hearers : Int32) (draft : AI) (dHearers : Int32) (dWalls : Int32) (toldWinds : Int32) (tape : AI) (taped : Int32) (pos : Int32) (frm : Int32) (sort : Int32) (value : Int32) (fault : Int32) (wrongAt : Int32) (landed : AI) (landedIn : AI) (stepped : AI) (isThere : AI) (isAt : AI) (isNext : AI) (landSum : Int64) (heardSum : Int64) (allWays : Int64) (ways : AI) (drawn : AI) (lanes : AI) (sizes : AI) (cells : AI) (torn : Int32) (before : AI) (p1 : Int32) (p2 : Int32) (res : Int32) (now_o : AI) (landed_o : AI) (landedIn_o : AI) (stepped_o : AI) (ways_o : AI) (hf : fX6_look p1 p2 st now landed landedIn stepped ways = some (res, now_o, landed_o, landedIn_o, stepped_o, ways_o)) : Met l yX6_look (cdX6_look :: wsL_law) rmX6_look (va_Pc [.ref (a_m 0), .int p1, .int p2] (RWp g sz (wM g a_m st now isKept hearers draft dHearers dWalls toldWinds tape taped pos frm sort value fault wrongAt landed landedIn stepped isThere isAt isNext landSum heardSum allWays ways drawn lanes sizes cells torn before))) (va_Qi (fun x (_ : Unit) => x = res) (fun _ => RWq g (va_A (wM g a_m st now isKept hearers draft dHearers dWalls toldWinds tape taped pos frm sort value fault wrongAt landed landedIn stepped isThere isAt isNext landSum heardSum allWays ways drawn lanes sizes cells torn before) sz) (wM g a_m st now_o isKept hearers draft dHearers dWalls toldWinds tape taped pos frm sort value fault wrongAt landed_o landedIn_o stepped_o isThere isAt isNext landSum heardSum allWays ways_o drawn lanes sizes cells torn before)) (va_A (wM g a_m st now isKept hearers draft dHearers dWalls toldWinds tape taped pos frm sort value fault wrongAt landed landedIn stepped isThere isAt isNext landSum heardSum allWays ways drawn lanes sizes cells torn before) sz)) 0 0 (va_A (wM g a_m st now isKept hearers draft dHearers dWalls toldWinds tape taped pos frm sort value fault wrongAt landed landedIn stepped isThere isAt isNext landSum heardSum allWays ways drawn lanes sizes cells torn before) sz) := by
  refine Met_rwi (cc := cX6_look) (maxL := 8) (by decide) rfl (Nat.le_of_ble_eq_true rfl) ?_
  intro P E Z Mi AR BE ME CO A Q C hK hA fin w ls hl
  have hl : lv_has ls 8 [(0, .ref (a_m 0)), (1, .int p1), (2, .int p2)] := hl
  unfold fX6_look at hf
  refine lv_aload_n C.1 C.2.1 (dk_at dkX6_look 0 rfl) rfl (lv_at hl 0 rfl) ?_
  refine lv_iload_n C.1 C.2.1 (dk_at dkX6_look 1 rfl) rfl (lv_at hl 1 rfl) ?_
  obtain ⟨r1, hq2, hf⟩ := bd1_at hf
  refine r_roV (As := [.int p1]) (rest := []) C (kX6_isSaying l g a_m st now isKept hearers draft dHearers dWalls toldWinds tape taped pos frm sort value fault wrongAt landed landedIn stepped isThere isAt isNext landSum heardSum allWays ways drawn lanes sizes cells torn before p1 r1 hq2) (cwV0 C (inr18 _ (List.mem_of_getElem? (i := 10) rfl)) mwX6_isSaying hdX6_isSaying ⟨Nat.le_of_ble_eq_true rfl, Nat.le_of_ble_eq_true rfl⟩) hK w.1 rfl rfl rfl hl.1 rfl (Nat.le_of_ble_eq_true rfl) ⟨Nat.zero_le _, Nat.zero_le _⟩ (dk_at dkX6_look 2 rfl) ?_
  refine lv_if_eq (tgt := 15) C.1 C.2.1 (dk_at dkX6_look 3 rfl) (by decide) (fun c3 => ?_) (fun c3 => ?_)
  · have hf := (if_pos c3).symm.trans hf
    refine lv_iconst (v := (-1)) C.1 C.2.1 (dk_at dkX6_look 7 rfl) (by decide) ?_
    cases hf
    exact fin _ _ _ _ _ (dk_at dkX6_look 8 rfl) rfl w
  · have hf := (if_neg c3).symm.trans hf
    refine lv_iload_n C.1 C.2.1 (dk_at dkX6_look 4 rfl) rfl (lv_at hl 2 rfl) ?_
    obtain ⟨r4, hq5, hf⟩ := bd1_at hf
    refine r_st (As := [.int p2]) (rest := []) C (kX6_isPart l p2 r4 hq5) (cwS0 C (inr26 _ (List.mem_of_getElem? (i := 22) rfl)) mwX6_isPart hdX6_isPart ⟨Nat.le_of_ble_eq_true rfl, Nat.le_of_ble_eq_true rfl⟩) rfl hl.1 rfl (Nat.le_of_ble_eq_true rfl) ⟨Nat.zero_le _, Nat.zero_le _⟩ (dk_at dkX6_look 5 rfl) ?_
    refine lv_if_ne (tgt := 17) C.1 C.2.1 (dk_at dkX6_look 6 rfl) (by decide) (fun c6 => ?_) (fun c6 => ?_)
    · have hf := (if_neg c6).symm.trans hf
      refine lv_iconst (v := 0) C.1 C.2.1 (dk_at dkX6_look 9 rfl) (by decide) ?_
      refine lv_istore_n (lv' := [(3, .int 0), (0, .ref (a_m 0)), (1, .int p1), (2, .int p2)]) C.1 C.2.1 (dk_at dkX6_look 10 rfl) rfl hl (by decide) rfl (fun ls hl => ?_)
      refine lv_bipush (v := (-4)) C.1 C.2.1 (dk_at dkX6_look 11 rfl) (by decide) ?_
      refine lv_istore (lv' := [(4, .int (-4)), (3, .int 0), (0, .ref (a_m 0)), (1, .int p1), (2, .int p2)]) C.1 C.2.1 (dk_at dkX6_look 12 rfl) hl (by decide) rfl (fun ls hl => ?_)
      refine lv_iconst (v := 0) C.1 C.2.1 (dk_at dkX6_look 13 rfl) (by decide) ?_
      refine lv_istore (lv' := [(5, .int 0), (4, .int (-4)), (3, .int 0), (0, .ref (a_m 0)), (1, .int p1), (2, .int p2)]) C.1 C.2.1 (dk_at dkX6_look 14 rfl) hl (by decide) rfl (fun ls hl => ?_)
      have L9 : ∀ (K : Int32 → AI → Option (Int32 × AI × AI × AI × AI × AI)), (∀ (v7 : Int32) (ways_8 : AI) (H : Heap) (locs : List Loc) (ls : Array Slot), Wd g A Z.heap (wM g a_m st now isKept hearers draft dHearers dWalls toldWinds tape taped pos frm sort value fault wrongAt landed landedIn stepped isThere isAt isNext landSum heardSum allWays ways_8 drawn lanes sizes cells torn before) H locs → lv_has ls 8 [(4, .int (-4)), (3, .int 0), (0, .ref (a_m 0)), (1, .int p1), (2, .int p2)] → K v7 ways_8 = some (res, now_o, landed_o, landedIn_o, stepped_o, ways_o) → W P l E rmX6_look Z Mi AR BE ME CO H locs 0 0 Q (F0 Mi 48 ls [])) → ∀ (n : Nat), ∀ (v7 : Int32) (ways_8 : AI) (H : Heap) (locs : List Loc) (ls : Array Slot), Wd g A Z.heap (wM g a_m st now isKept hearers draft dHearers dWalls toldWinds tape taped pos frm sort value fault wrongAt landed landedIn stepped isThere isAt isNext landSum heardSum allWays ways_8 drawn lanes sizes cells torn before) H locs → lv_has ls 8 [(5, .int v7), (4, .int (-4)), (3, .int 0), (0, .ref (a_m 0)), (1, .int p1), (2, .int p2)] → fX6_look_L26 K n v7 ways_8 = some (res, now_o, landed_o, landedIn_o, stepped_o, ways_o) → W P l E rmX6_look Z Mi AR BE ME CO H locs 0 0 Q (F0 Mi 26 ls []) := by
        intro K hKe n
        induction n with
        | zero => intro v7 ways_8 H locs ls w hl hf; cases hf
        | succ n ih =>
          intro v7 ways_8 H locs ls w hl hf
          rw [fX6_look_L26] at hf
          refine lv_iload C.1 C.2.1 (dk_at dkX6_look 15 rfl) (lv_at hl 0 rfl) ?_
          refine lv_sipush (v := 400) C.1 C.2.1 (dk_at dkX6_look 16 rfl) (by decide) ?_
          refine lv_icmp_ge (tgt := 48) C.1 C.2.1 (dk_at dkX6_look 17 rfl) (by decide) (fun c10 => ?_) (fun c10 => ?_)
          · have hf := (if_pos c10).symm.trans hf
            exact hKe v7 ways_8 _ _ _ w (lv_sub hl [1, 2, 3, 4, 5] rfl) hf
          · have hf := (if_neg c10).symm.trans hf
            refine lv_aload_n C.1 C.2.1 (dk_at dkX6_look 18 rfl) rfl (lv_at hl 3 rfl) ?_
            refine r_get (v := .ref (a_m 12)) C hK w.1 (fun w h => List.mem_cons_of_mem _ (inlX6 w h)) 0 rfl rfl 25 (by decide) (List.mem_cons_of_mem _ (inr4 _ (List.mem_of_getElem? (i := 15) rfl))) rfl (dk_at dkX6_look 19 rfl) ?_
            refine lv_iload C.1 C.2.1 (dk_at dkX6_look 20 rfl) (lv_at hl 0 rfl) ?_
            refine lv_iconst (v := 0) C.1 C.2.1 (dk_at dkX6_look 21 rfl) (by decide) ?_
            obtain ⟨h11, hf⟩ := gd_at hf
            refine r_iast (k := v7.toNatClampNeg) (f := ways_8) C hK w 12 rfl h11 rfl (dk_at dkX6_look 22 rfl) (fun H locs w => ?_)
            obtain ⟨ways_12, eways_12⟩ : ∃ z : AI, z = upd ways_8 v7.toNatClampNeg 0 := ⟨_, rfl⟩
            have hf := nm_at eways_12 hf
            have w : Wd g A Z.heap (wM g a_m st now isKept hearers draft dHearers dWalls toldWinds tape taped pos frm sort value fault wrongAt landed landedIn stepped isThere isAt isNext landSum heardSum allWays ways_12 drawn lanes sizes cells torn before) H locs := by rw [eways_12]; exact w
            obtain ⟨x13, ex13⟩ : ∃ z : Int32, z = v7 + 1 := ⟨_, rfl⟩
            have hf := nm_at ex13 hf
            refine lv_iinc (v := x13) (lv' := [(5, .int x13), (4, .int (-4)), (3, .int 0), (0, .ref (a_m 0)), (1, .int p1), (2, .int p2)]) C.1 C.2.1 (dk_at dkX6_look 23 rfl) hl (k := 0) rfl (by rw [ex13]; rfl) (by decide) rfl (fun ls hl => ?_)
            refine lv_goto (tgt := 26) C.1 C.2.1 (dk_at dkX6_look 24 rfl) (by decide) ?_
            exact ih x13 ways_12 _ _ _ w (lv_sub hl [0, 1, 2, 3, 4, 5] rfl) hf
      refine L9 _ ?_ 4096 0 ways _ _ _ w (lv_sub hl [0, 1, 2, 3, 4, 5] rfl) hf
      clear hf
      intro v7 ways_8 H locs ls w hl hf
      refine lv_iconst (v := 1) C.1 C.2.1 (dk_at dkX6_look 25 rfl) (by decide) ?_
      refine lv_istore (lv' := [(5, .int 1), (4, .int (-4)), (3, .int 0), (0, .ref (a_m 0)), (1, .int p1), (2, .int p2)]) C.1 C.2.1 (dk_at dkX6_look 26 rfl) hl (by decide) rfl (fun ls hl => ?_)
      have L21 : ∀ (K : Int32 → Int32 → AI → AI → AI → AI → AI → Option (Int32 × AI × AI × AI × AI × AI)), (∀ (v14 : Int32) (v15 : Int32) (now_16 : AI) (landed_17 : AI) (landedIn_18 : AI) (stepped_19 : AI) (ways_20 : AI) (H : Heap) (locs : List Loc) (ls : Array Slot), Wd g A Z.heap (wM g a_m st now_16 isKept hearers draft dHearers dWalls toldWinds tape taped pos frm sort value fault wrongAt landed_17 landedIn_18 stepped_19 isThere isAt isNext landSum heardSum allWays ways_20 drawn lanes sizes cells torn before) H locs → lv_has ls 8 [(4, .int (-4)), (3, .int v15), (0, .ref (a_m 0)), (2, .int p2)] → K v14 v15 now_16 landed_17 landedIn_18 stepped_19 ways_20 = some (res, now_o, landed_o, landedIn_o, stepped_o, ways_o) → W P l E rmX6_look Z Mi AR BE ME CO H locs 0 0 Q (F0 Mi 121 ls [])) → ∀ (n : Nat), ∀ (v14 : Int32) (v15 : Int32) (now_16 : AI) (landed_17 : AI) (landedIn_18 : AI) (stepped_19 : AI) (ways_20 : AI) (H : Heap) (locs : List Loc) (ls : Array Slot), Wd g A Z.heap (wM g a_m st now_16 isKept hearers draft dHearers dWalls toldWinds tape taped pos frm sort value fault wrongAt landed_17 landedIn_18 stepped_19 isThere isAt isNext landSum heardSum allWays ways_20 drawn lanes sizes cells torn before) H locs → lv_has ls 8 [(5, .int v14), (4, .int (-4)), (3, .int v15), (0, .ref (a_m 0)), (1, .int p1), (2, .int p2)] → fX6_look_L51 st p1 K n v14 v15 now_16 landed_17 landedIn_18 stepped_19 ways_20 = some (res, now_o, landed_o, landedIn_o, stepped_o, ways_o) → W P l E rmX6_look Z Mi AR BE ME CO H locs 0 0 Q (F0 Mi 51 ls []) := by
        intro K hKe n
        induction n with
        | zero => intro v14 v15 now_16 landed_17 landedIn_18 stepped_19 ways_20 H locs ls w hl hf; cases hf
        | succ n ih =>
          intro v14 v15 now_16 landed_17 landedIn_18 stepped_19 ways_20 H locs ls w hl hf
          rw [fX6_look_L51] at hf
          refine lv_iload C.1 C.2.1 (dk_at dkX6_look 27 rfl) (lv_at hl 0 rfl) ?_
          refine lv_bipush (v := 9) C.1 C.2.1 (dk_at dkX6_look 28 rfl) (by decide) ?_
          refine lv_icmp_gt (tgt := 121) C.1 C.2.1 (dk_at dkX6_look 29 rfl) (by decide) (fun c22 => ?_) (fun c22 => ?_)
          · have hf := (if_pos c22).symm.trans hf
            exact hKe v14 v15 now_16 landed_17 landedIn_18 stepped_19 ways_20 _ _ _ w (lv_sub hl [1, 2, 3, 5] rfl) hf
          · have hf := (if_neg c22).symm.trans hf
            refine lv_aload_n C.1 C.2.1 (dk_at dkX6_look 30 rfl) rfl (lv_at hl 3 rfl) ?_
            refine lv_iload_n C.1 C.2.1 (dk_at dkX6_look 31 rfl) rfl (lv_at hl 4 rfl) ?_
            refine lv_iconst (v := 3) C.1 C.2.1 (dk_at dkX6_look 32 rfl) (by decide) ?_
            refine lv_iload C.1 C.2.1 (dk_at dkX6_look 33 rfl) (lv_at hl 0 rfl) ?_
            obtain ⟨r23, now_24, landed_25, landedIn_26, stepped_27, hq28, hf⟩ := bd5_at hf
            refine r_rwi (As := [.int p1, .int 3, .int v14]) (rest := []) (wr := []) (ws' := wM g a_m st now_24 isKept hearers draft dHearers dWalls toldWinds tape taped pos frm sort value fault wrongAt landed_25 landedIn_26 stepped_27 isThere isAt isNext landSum heardSum allWays ways_20 drawn lanes sizes cells torn before) C (kX6_isSoWith l g _ a_m st now_16 isKept hearers draft dHearers dWalls toldWinds tape taped pos frm sort value fault wrongAt landed_17 landedIn_18 stepped_19 isThere isAt isNext landSum heardSum allWays ways_20 drawn lanes sizes cells torn before p1 3 v14 r23 now_24 landed_25 landedIn_26 stepped_27 hq28) (cwV0 C (inr36 _ (List.mem_of_getElem? (i := 16) rfl)) mwX6_isSoWith hdX6_isSoWith ⟨Nat.le_of_ble_eq_true rfl, Nat.le_of_ble_eq_true rfl⟩) hK w hA [0, 1, 2, 3, 4, 5, 6, 7, 8, 9, 10, 11, 12, 13, 14, 15, 16, 17] [] [0, 1, 2, 3, 4, 5, 6, 7, 8, 9, 10, 11, 12, 13, 14, 15, 16, 17] (by decide) rfl rfl (by decide) (by decide) rfl (by decide) rfl rfl rfl hl.1 rfl (Nat.le_of_ble_eq_true rfl) ⟨Nat.zero_le _, Nat.zero_le _⟩ (dk_at dkX6_look 34 rfl) (fun H locs w => ?_)
            refine lv_if_eq (tgt := 115) C.1 C.2.1 (dk_at dkX6_look 35 rfl) (by decide) (fun c29 => ?_) (fun c29 => ?_)
            · have hf := (if_pos c29).symm.trans hf
              obtain ⟨x30, ex30⟩ : ∃ z : Int32, z = v14 + 1 := ⟨_, rfl⟩
              have hf := nm_at ex30 hf
              refine lv_iinc (v := x30) (lv' := [(5, .int x30), (4, .int (-4)), (3, .int v15), (0, .ref (a_m 0)), (1, .int p1), (2, .int p2)]) C.1 C.2.1 (dk_at dkX6_look 62 rfl) hl (k := 0) rfl (by rw [ex30]; rfl) (by decide) rfl (fun ls hl => ?_)
              refine lv_goto (tgt := 51) C.1 C.2.1 (dk_at dkX6_look 63 rfl) (by decide) ?_
              exact ih x30 v15 now_24 landed_25 landedIn_26 stepped_27 ways_20 _ _ _ w (lv_sub hl [0, 1, 2, 3, 4, 5] rfl) hf
            · have hf := (if_neg c29).symm.trans hf
              obtain ⟨x31, ex31⟩ : ∃ z : Int32, z = v15 + 1 := ⟨_, rfl⟩
              have hf := nm_at ex31 hf
              refine lv_iinc (v := x31) (lv' := [(3, .int x31), (5, .int v14), (4, .int (-4)), (0, .ref (a_m 0)), (1, .int p1), (2, .int p2)]) C.1 C.2.1 (dk_at dkX6_look 36 rfl) hl (k := 2) rfl (by rw [ex31]; rfl) (by decide) rfl (fun ls hl => ?_)
              refine lv_iconst (v := 0) C.1 C.2.1 (dk_at dkX6_look 37 rfl) (by decide) ?_
              refine lv_istore (lv' := [(6, .int 0), (3, .int x31), (5, .int v14), (4, .int (-4)), (0, .ref (a_m 0)), (1, .int p1), (2, .int p2)]) C.1 C.2.1 (dk_at dkX6_look 38 rfl) hl (by decide) rfl (fun ls hl => ?_)
              have L34 : ∀ (K : Int32 → AI → Option (Int32 × AI × AI × AI × AI × AI)), (∀ (v32 : Int32) (ways_33 : AI) (H : Heap) (locs : List Loc) (ls : Array Slot), Wd g A Z.heap (wM g a_m st now_24 isKept hearers draft dHearers dWalls toldWinds tape taped pos frm sort value fault wrongAt landed_25 landedIn_26 stepped_27 isThere isAt isNext landSum heardSum allWays ways_33 drawn lanes sizes cells torn before) H locs → lv_has ls 8 [(3, .int x31), (5, .int v14), (4, .int (-4)), (0, .ref (a_m 0)), (1, .int p1), (2, .int p2)] → K v32 ways_33 = some (res, now_o, landed_o, landedIn_o, stepped_o, ways_o) → W P l E rmX6_look Z Mi AR BE ME CO H locs 0 0 Q (F0 Mi 115 ls [])) → ∀ (n : Nat), ∀ (v32 : Int32) (ways_33 : AI) (H : Heap) (locs : List Loc) (ls : Array Slot), Wd g A Z.heap (wM g a_m st now_24 isKept hearers draft dHearers dWalls toldWinds tape taped pos frm sort value fault wrongAt landed_25 landedIn_26 stepped_27 isThere isAt isNext landSum heardSum allWays ways_33 drawn lanes sizes cells torn before) H locs → lv_has ls 8 [(6, .int v32), (3, .int x31), (5, .int v14), (4, .int (-4)), (0, .ref (a_m 0)), (1, .int p1), (2, .int p2)] → fX6_look_L75 st landed_25 K n v32 ways_33 = some (res, now_o, landed_o, landedIn_o, stepped_o, ways_o) → W P l E rmX6_look Z Mi AR BE ME CO H locs 0 0 Q (F0 Mi 75 ls []) := by
                intro K hKe n
                induction n with
                | zero => intro v32 ways_33 H locs ls w hl hf; cases hf
                | succ n ih =>
                  intro v32 ways_33 H locs ls w hl hf
                  rw [fX6_look_L75] at hf
                  refine lv_iload C.1 C.2.1 (dk_at dkX6_look 39 rfl) (lv_at hl 0 rfl) ?_
                  refine lv_aload_n C.1 C.2.1 (dk_at dkX6_look 40 rfl) rfl (lv_at hl 4 rfl) ?_
                  refine r_get (v := .ref (a_m 1)) C hK w.1 (fun w h => List.mem_cons_of_mem _ (inlX6 w h)) 0 rfl rfl 0 (by decide) (List.mem_cons_of_mem _ (inr4 _ (List.mem_of_getElem? (i := 4) rfl))) rfl (dk_at dkX6_look 41 rfl) ?_
                  refine lv_bipush (v := 43) C.1 C.2.1 (dk_at dkX6_look 42 rfl) (by decide) ?_
                  refine r_iald (k := 43) (f := st) C hK w.1 1 rfl (in_c (by decide)) (by decide) (dk_at dkX6_look 43 rfl) ?_
                  refine lv_icmp_ge (tgt := 115) C.1 C.2.1 (dk_at dkX6_look 44 rfl) (by decide) (fun c35 => ?_) (fun c35 => ?_)
                  · have hf := (if_pos c35).symm.trans hf
                    exact hKe v32 ways_33 _ _ _ w (lv_sub hl [1, 2, 3, 4, 5, 6] rfl) hf
                  · have hf := (if_neg c35).symm.trans hf
                    refine lv_aload_n C.1 C.2.1 (dk_at dkX6_look 45 rfl) rfl (lv_at hl 4 rfl) ?_
                    refine r_get (v := .ref (a_m 12)) C hK w.1 (fun w h => List.mem_cons_of_mem _ (inlX6 w h)) 0 rfl rfl 25 (by decide) (List.mem_cons_of_mem _ (inr4 _ (List.mem_of_getElem? (i := 15) rfl))) rfl (dk_at dkX6_look 46 rfl) ?_
                    refine lv_bipush (v := 80) C.1 C.2.1 (dk_at dkX6_look 47 rfl) (by decide) ?_
                    refine lv_iload C.1 C.2.1 (dk_at dkX6_look 48 rfl) (lv_at hl 0 rfl) ?_
                    refine lv_imul C.1 C.2.1 (dk_at dkX6_look 49 rfl) ?_
                    refine lv_topi (fun x36 ex36 => ?_)
                    have hf := nm_at ex36 hf
                    refine lv_aload_n C.1 C.2.1 (dk_at dkX6_look 50 rfl) rfl (lv_at hl 4 rfl) ?_
                    refine r_get (v := .ref (a_m 6)) C hK w.1 (fun w h => List.mem_cons_of_mem _ (inlX6 w h)) 0 rfl rfl 16 (by decide) (List.mem_cons_of_mem _ (inr4 _ (List.mem_of_getElem? (i := 9) rfl))) rfl (dk_at dkX6_look 51 rfl) ?_
                    refine lv_iload C.1 C.2.1 (dk_at dkX6_look 52 rfl) (lv_at hl 0 rfl) ?_
                    obtain ⟨h37, hf⟩ := gd_at hf
                    refine r_iald (k := v32.toNatClampNeg) (f := landed_25) C hK w.1 6 rfl h37 rfl (dk_at dkX6_look 53 rfl) ?_
                    refine lv_iadd C.1 C.2.1 (dk_at dkX6_look 54 rfl) ?_
                    refine lv_topi (fun x38 ex38 => ?_)
                    have hf := nm_at ex38 hf
                    refine lv_dup2_11 C.1 C.2.1 (dk_at dkX6_look 55 rfl) rfl rfl ?_
                    obtain ⟨h39, hf⟩ := gd_at hf
                    refine r_iald (k := x38.toNatClampNeg) (f := ways_33) C hK w.1 12 rfl h39 rfl (dk_at dkX6_look 56 rfl) ?_
                    refine lv_topi (fun x40 ex40 => ?_)
                    have hf := nm_at ex40 hf
                    refine lv_iconst (v := 1) C.1 C.2.1 (dk_at dkX6_look 57 rfl) (by decide) ?_
                    refine lv_iadd C.1 C.2.1 (dk_at dkX6_look 58 rfl) ?_
                    refine lv_topi (fun x41 ex41 => ?_)
                    have hf := nm_at ex41 hf
                    obtain ⟨h42, hf⟩ := gd_at hf
                    refine r_iast (k := x38.toNatClampNeg) (f := ways_33) C hK w 12 rfl h42 rfl (dk_at dkX6_look 59 rfl) (fun H locs w => ?_)
                    obtain ⟨ways_43, eways_43⟩ : ∃ z : AI, z = upd ways_33 x38.toNatClampNeg x41 := ⟨_, rfl⟩
                    have hf := nm_at eways_43 hf
                    have w : Wd g A Z.heap (wM g a_m st now_24 isKept hearers draft dHearers dWalls toldWinds tape taped pos frm sort value fault wrongAt landed_25 landedIn_26 stepped_27 isThere isAt isNext landSum heardSum allWays ways_43 drawn lanes sizes cells torn before) H locs := by rw [eways_43]; exact w
                    obtain ⟨x44, ex44⟩ : ∃ z : Int32, z = v32 + 1 := ⟨_, rfl⟩
                    have hf := nm_at ex44 hf
                    refine lv_iinc (v := x44) (lv' := [(6, .int x44), (3, .int x31), (5, .int v14), (4, .int (-4)), (0, .ref (a_m 0)), (1, .int p1), (2, .int p2)]) C.1 C.2.1 (dk_at dkX6_look 60 rfl) hl (k := 0) rfl (by rw [ex44]; rfl) (by decide) rfl (fun ls hl => ?_)
                    refine lv_goto (tgt := 75) C.1 C.2.1 (dk_at dkX6_look 61 rfl) (by decide) ?_
                    exact ih x44 ways_43 _ _ _ w (lv_sub hl [0, 1, 2, 3, 4, 5, 6] rfl) hf
              refine L34 _ ?_ 4096 0 ways_20 _ _ _ w (lv_sub hl [0, 1, 2, 3, 4, 5, 6] rfl) hf
              clear hf
              intro v32 ways_33 H locs ls w hl hf
              obtain ⟨x45, ex45⟩ : ∃ z : Int32, z = v14 + 1 := ⟨_, rfl⟩
              have hf := nm_at ex45 hf
              refine lv_iinc (v := x45) (lv' := [(5, .int x45), (3, .int x31), (4, .int (-4)), (0, .ref (a_m 0)), (1, .int p1), (2, .int p2)]) C.1 C.2.1 (dk_at dkX6_look 62 rfl) hl (k := 1) rfl (by rw [ex45]; rfl) (by decide) rfl (fun ls hl => ?_)
              refine lv_goto (tgt := 51) C.1 C.2.1 (dk_at dkX6_look 63 rfl) (by decide) ?_
              exact ih x45 x31 now_24 landed_25 landedIn_26 stepped_27 ways_33 _ _ _ w (lv_sub hl [0, 2, 1, 3, 4, 5] rfl) hf
      refine L21 _ ?_ 4096 1 0 now landed landedIn stepped ways_8 _ _ _ w (lv_sub hl [0, 1, 2, 3, 4, 5] rfl) hf
      clear hf
      intro v14 v15 now_16 landed_17 landedIn_18 stepped_19 ways_20 H locs ls w hl hf
      refine lv_iconst (v := 0) C.1 C.2.1 (dk_at dkX6_look 64 rfl) (by decide) ?_
      refine lv_istore (lv' := [(5, .int 0), (4, .int (-4)), (3, .int v15), (0, .ref (a_m 0)), (2, .int p2)]) C.1 C.2.1 (dk_at dkX6_look 65 rfl) hl (by decide) rfl (fun ls hl => ?_)
      have L49 : ∀ (K : Int32 → Int32 → Int32 → Option (Int32 × AI × AI × AI × AI × AI)), (∀ (v46 : Int32) (v47 : Int32) (v48 : Int32) (H : Heap) (locs : List Loc) (ls : Array Slot), Wd g A Z.heap (wM g a_m st now_16 isKept hearers draft dHearers dWalls toldWinds tape taped pos frm sort value fault wrongAt landed_17 landedIn_18 stepped_19 isThere isAt isNext landSum heardSum allWays ways_20 drawn lanes sizes cells torn before) H locs → lv_has ls 8 [(4, .int v47), (3, .int v48), (2, .int p2)] → K v46 v47 v48 = some (res, now_o, landed_o, landedIn_o, stepped_o, ways_o) → W P l E rmX6_look Z Mi AR BE ME CO H locs 0 0 Q (F0 Mi 227 ls [])) → ∀ (n : Nat), ∀ (v46 : Int32) (v47 : Int32) (v48 : Int32) (H : Heap) (locs : List Loc) (ls : Array Slot), Wd g A Z.heap (wM g a_m st now_16 isKept hearers draft dHearers dWalls toldWinds tape taped pos frm sort value fault wrongAt landed_17 landedIn_18 stepped_19 isThere isAt isNext landSum heardSum allWays ways_20 drawn lanes sizes cells torn before) H locs → lv_has ls 8 [(5, .int v46), (4, .int v47), (3, .int v48), (0, .ref (a_m 0)), (2, .int p2)] → fX6_look_L124 st ways_20 K n v46 v47 v48 = some (res, now_o, landed_o, landedIn_o, stepped_o, ways_o) → W P l E rmX6_look Z Mi AR BE ME CO H locs 0 0 Q (F0 Mi 124 ls []) := by
        intro K hKe n
        induction n with
        | zero => intro v46 v47 v48 H locs ls w hl hf; cases hf
        | succ n ih =>
          intro v46 v47 v48 H locs ls w hl hf
          rw [fX6_look_L124] at hf
          refine lv_iload C.1 C.2.1 (dk_at dkX6_look 66 rfl) (lv_at hl 0 rfl) ?_
          refine lv_aload_n C.1 C.2.1 (dk_at dkX6_look 67 rfl) rfl (lv_at hl 3 rfl) ?_
          refine r_get (v := .ref (a_m 1)) C hK w.1 (fun w h => List.mem_cons_of_mem _ (inlX6 w h)) 0 rfl rfl 0 (by decide) (List.mem_cons_of_mem _ (inr4 _ (List.mem_of_getElem? (i := 4) rfl))) rfl (dk_at dkX6_look 68 rfl) ?_
          refine lv_bipush (v := 43) C.1 C.2.1 (dk_at dkX6_look 69 rfl) (by decide) ?_
          refine r_iald (k := 43) (f := st) C hK w.1 1 rfl (in_c (by decide)) (by decide) (dk_at dkX6_look 70 rfl) ?_
          refine lv_icmp_ge (tgt := 227) C.1 C.2.1 (dk_at dkX6_look 71 rfl) (by decide) (fun c50 => ?_) (fun c50 => ?_)
          · have hf := (if_pos c50).symm.trans hf
            exact hKe v46 v47 v48 _ _ _ w (lv_sub hl [1, 2, 4] rfl) hf
          · have hf := (if_neg c50).symm.trans hf
            refine lv_iconst (v := 0) C.1 C.2.1 (dk_at dkX6_look 72 rfl) (by decide) ?_
            refine lv_istore (lv' := [(6, .int 0), (5, .int v46), (4, .int v47), (3, .int v48), (0, .ref (a_m 0)), (2, .int p2)]) C.1 C.2.1 (dk_at dkX6_look 73 rfl) hl (by decide) rfl (fun ls hl => ?_)
            refine lv_iconst (v := 0) C.1 C.2.1 (dk_at dkX6_look 74 rfl) (by decide) ?_
            refine lv_istore (lv' := [(7, .int 0), (6, .int 0), (5, .int v46), (4, .int v47), (3, .int v48), (0, .ref (a_m 0)), (2, .int p2)]) C.1 C.2.1 (dk_at dkX6_look 75 rfl) hl (by decide) rfl (fun ls hl => ?_)
            have L53 : ∀ (K : Int32 → Int32 → Option (Int32 × AI × AI × AI × AI × AI)), (∀ (v51 : Int32) (v52 : Int32) (H : Heap) (locs : List Loc) (ls : Array Slot), Wd g A Z.heap (wM g a_m st now_16 isKept hearers draft dHearers dWalls toldWinds tape taped pos frm sort value fault wrongAt landed_17 landedIn_18 stepped_19 isThere isAt isNext landSum heardSum allWays ways_20 drawn lanes sizes cells torn before) H locs → lv_has ls 8 [(6, .int v52), (5, .int v46), (4, .int v47), (3, .int v48), (0, .ref (a_m 0)), (2, .int p2)] → K v51 v52 = some (res, now_o, landed_o, landedIn_o, stepped_o, ways_o) → W P l E rmX6_look Z Mi AR BE ME CO H locs 0 0 Q (F0 Mi 193 ls [])) → ∀ (n : Nat), ∀ (v51 : Int32) (v52 : Int32) (H : Heap) (locs : List Loc) (ls : Array Slot), Wd g A Z.heap (wM g a_m st now_16 isKept hearers draft dHearers dWalls toldWinds tape taped pos frm sort value fault wrongAt landed_17 landedIn_18 stepped_19 isThere isAt isNext landSum heardSum allWays ways_20 drawn lanes sizes cells torn before) H locs → lv_has ls 8 [(7, .int v51), (6, .int v52), (5, .int v46), (4, .int v47), (3, .int v48), (0, .ref (a_m 0)), (2, .int p2)] → fX6_look_L142 ways_20 v46 K n v51 v52 = some (res, now_o, landed_o, landedIn_o, stepped_o, ways_o) → W P l E rmX6_look Z Mi AR BE ME CO H locs 0 0 Q (F0 Mi 142 ls []) := by
              intro K hKe n
              induction n with
              | zero => intro v51 v52 H locs ls w hl hf; cases hf
              | succ n ih =>
                intro v51 v52 H locs ls w hl hf
                rw [fX6_look_L142] at hf
                refine lv_iload C.1 C.2.1 (dk_at dkX6_look 76 rfl) (lv_at hl 0 rfl) ?_
                refine lv_bipush (v := 80) C.1 C.2.1 (dk_at dkX6_look 77 rfl) (by decide) ?_
                refine lv_icmp_ge (tgt := 193) C.1 C.2.1 (dk_at dkX6_look 78 rfl) (by decide) (fun c54 => ?_) (fun c54 => ?_)
                · have hf := (if_pos c54).symm.trans hf
                  exact hKe v51 v52 _ _ _ w (lv_sub hl [1, 2, 3, 4, 5, 6] rfl) hf
                · have hf := (if_neg c54).symm.trans hf
                  refine lv_aload_n C.1 C.2.1 (dk_at dkX6_look 79 rfl) rfl (lv_at hl 5 rfl) ?_
                  refine r_get (v := .ref (a_m 12)) C hK w.1 (fun w h => List.mem_cons_of_mem _ (inlX6 w h)) 0 rfl rfl 25 (by decide) (List.mem_cons_of_mem _ (inr4 _ (List.mem_of_getElem? (i := 15) rfl))) rfl (dk_at dkX6_look 80 rfl) ?_
                  refine lv_bipush (v := 80) C.1 C.2.1 (dk_at dkX6_look 81 rfl) (by decide) ?_
                  refine lv_iload C.1 C.2.1 (dk_at dkX6_look 82 rfl) (lv_at hl 2 rfl) ?_
                  refine lv_imul C.1 C.2.1 (dk_at dkX6_look 83 rfl) ?_
                  refine lv_topi (fun x55 ex55 => ?_)
                  have hf := nm_at ex55 hf
                  refine lv_iload C.1 C.2.1 (dk_at dkX6_look 84 rfl) (lv_at hl 0 rfl) ?_
                  refine lv_iadd C.1 C.2.1 (dk_at dkX6_look 85 rfl) ?_
                  refine lv_topi (fun x56 ex56 => ?_)
                  have hf := nm_at ex56 hf
                  obtain ⟨h57, hf⟩ := gd_at hf
                  refine r_iald (k := x56.toNatClampNeg) (f := ways_20) C hK w.1 12 rfl h57 rfl (dk_at dkX6_look 86 rfl) ?_
                  refine lv_topi (fun x58 ex58 => ?_)
                  have hf := nm_at ex58 hf
                  refine lv_iload C.1 C.2.1 (dk_at dkX6_look 87 rfl) (lv_at hl 1 rfl) ?_
                  refine lv_icmp_le (tgt := 183) C.1 C.2.1 (dk_at dkX6_look 88 rfl) (by decide) (fun c59 => ?_) (fun c59 => ?_)
                  · have hf := (if_pos c59).symm.trans hf
                    refine lv_iload C.1 C.2.1 (dk_at dkX6_look 98 rfl) (lv_at hl 1 rfl) ?_
                    refine lv_istore (lv' := [(6, .int v52), (7, .int v51), (5, .int v46), (4, .int v47), (3, .int v48), (0, .ref (a_m 0)), (2, .int p2)]) C.1 C.2.1 (dk_at dkX6_look 99 rfl) hl (by decide) rfl (fun ls hl => ?_)
                    obtain ⟨x60, ex60⟩ : ∃ z : Int32, z = v51 + 1 := ⟨_, rfl⟩
                    have hf := nm_at ex60 hf
                    refine lv_iinc (v := x60) (lv' := [(7, .int x60), (6, .int v52), (5, .int v46), (4, .int v47), (3, .int v48), (0, .ref (a_m 0)), (2, .int p2)]) C.1 C.2.1 (dk_at dkX6_look 100 rfl) hl (k := 1) rfl (by rw [ex60]; rfl) (by decide) rfl (fun ls hl => ?_)
                    refine lv_goto (tgt := 142) C.1 C.2.1 (dk_at dkX6_look 101 rfl) (by decide) ?_
                    exact ih x60 v52 _ _ _ w (lv_sub hl [0, 1, 2, 3, 4, 5, 6] rfl) hf
                  · have hf := (if_neg c59).symm.trans hf
                    refine lv_aload_n C.1 C.2.1 (dk_at dkX6_look 89 rfl) rfl (lv_at hl 5 rfl) ?_
                    refine r_get (v := .ref (a_m 12)) C hK w.1 (fun w h => List.mem_cons_of_mem _ (inlX6 w h)) 0 rfl rfl 25 (by decide) (List.mem_cons_of_mem _ (inr4 _ (List.mem_of_getElem? (i := 15) rfl))) rfl (dk_at dkX6_look 90 rfl) ?_
                    refine lv_bipush (v := 80) C.1 C.2.1 (dk_at dkX6_look 91 rfl) (by decide) ?_
                    refine lv_iload C.1 C.2.1 (dk_at dkX6_look 92 rfl) (lv_at hl 2 rfl) ?_
                    refine lv_imul C.1 C.2.1 (dk_at dkX6_look 93 rfl) ?_
                    refine lv_topi (fun x61 ex61 => ?_)
                    have hf := nm_at ex61 hf
                    refine lv_iload C.1 C.2.1 (dk_at dkX6_look 94 rfl) (lv_at hl 0 rfl) ?_
                    refine lv_iadd C.1 C.2.1 (dk_at dkX6_look 95 rfl) ?_
                    refine lv_topi (fun x62 ex62 => ?_)
                    have hf := nm_at ex62 hf
                    obtain ⟨h63, hf⟩ := gd_at hf
                    refine r_iald (k := x62.toNatClampNeg) (f := ways_20) C hK w.1 12 rfl h63 rfl (dk_at dkX6_look 96 rfl) ?_
                    refine lv_topi (fun x64 ex64 => ?_)
                    have hf := nm_at ex64 hf
                    refine lv_goto (tgt := 185) C.1 C.2.1 (dk_at dkX6_look 97 rfl) (by decide) ?_
                    refine lv_istore (lv' := [(6, .int x64), (7, .int v51), (5, .int v46), (4, .int v47), (3, .int v48), (0, .ref (a_m 0)), (2, .int p2)]) C.1 C.2.1 (dk_at dkX6_look 99 rfl) hl (by decide) rfl (fun ls hl => ?_)
                    obtain ⟨x65, ex65⟩ : ∃ z : Int32, z = v51 + 1 := ⟨_, rfl⟩
                    have hf := nm_at ex65 hf
                    refine lv_iinc (v := x65) (lv' := [(7, .int x65), (6, .int x64), (5, .int v46), (4, .int v47), (3, .int v48), (0, .ref (a_m 0)), (2, .int p2)]) C.1 C.2.1 (dk_at dkX6_look 100 rfl) hl (k := 1) rfl (by rw [ex65]; rfl) (by decide) rfl (fun ls hl => ?_)
                    refine lv_goto (tgt := 142) C.1 C.2.1 (dk_at dkX6_look 101 rfl) (by decide) ?_
                    exact ih x65 x64 _ _ _ w (lv_sub hl [0, 1, 2, 3, 4, 5, 6] rfl) hf
            refine L53 _ ?_ 4096 0 0 _ _ _ w (lv_sub hl [0, 1, 2, 3, 4, 5, 6] rfl) hf
            clear hf
            intro v51 v52 H locs ls w hl hf
            refine lv_iload C.1 C.2.1 (dk_at dkX6_look 102 rfl) (lv_at hl 0 rfl) ?_
            refine lv_iload_n C.1 C.2.1 (dk_at dkX6_look 103 rfl) rfl (lv_at hl 3 rfl) ?_
            obtain ⟨y66, hq67, hf⟩ := bd1_at hf
            have J68 : ∀ (H : Heap) (locs : List Loc) (ls : Array Slot), Wd g A Z.heap (wM g a_m st now_16 isKept hearers draft dHearers dWalls toldWinds tape taped pos frm sort value fault wrongAt landed_17 landedIn_18 stepped_19 isThere isAt isNext landSum heardSum allWays ways_20 drawn lanes sizes cells torn before) H locs → lv_has ls 8 [(6, .int v52), (5, .int v46), (3, .int v48), (0, .ref (a_m 0)), (2, .int p2)] → W P l E rmX6_look Z Mi AR BE ME CO H locs 0 0 Q (F0 Mi 206 ls [.int y66]) := by
              intro H locs ls w hl
              refine lv_istore (lv' := [(4, .int y66), (6, .int v52), (5, .int v46), (3, .int v48), (0, .ref (a_m 0)), (2, .int p2)]) C.1 C.2.1 (dk_at dkX6_look 108 rfl) hl (by decide) rfl (fun ls hl => ?_)
              refine lv_iload C.1 C.2.1 (dk_at dkX6_look 109 rfl) (lv_at hl 1 rfl) ?_
              refine lv_iload_n C.1 C.2.1 (dk_at dkX6_look 110 rfl) rfl (lv_at hl 3 rfl) ?_
              refine lv_icmp_ge (tgt := 219) C.1 C.2.1 (dk_at dkX6_look 111 rfl) (by decide) (fun c69 => ?_) (fun c69 => ?_)
              · have hf := (if_pos c69).symm.trans hf
                refine lv_iload_n C.1 C.2.1 (dk_at dkX6_look 114 rfl) rfl (lv_at hl 3 rfl) ?_
                refine lv_istore_n (lv' := [(3, .int v48), (4, .int y66), (6, .int v52), (5, .int v46), (0, .ref (a_m 0)), (2, .int p2)]) C.1 C.2.1 (dk_at dkX6_look 115 rfl) rfl hl (by decide) rfl (fun ls hl => ?_)
                obtain ⟨x70, ex70⟩ : ∃ z : Int32, z = v46 + 1 := ⟨_, rfl⟩
                have hf := nm_at ex70 hf
                refine lv_iinc (v := x70) (lv' := [(5, .int x70), (3, .int v48), (4, .int y66), (6, .int v52), (0, .ref (a_m 0)), (2, .int p2)]) C.1 C.2.1 (dk_at dkX6_look 116 rfl) hl (k := 3) rfl (by rw [ex70]; rfl) (by decide) rfl (fun ls hl => ?_)
                refine lv_goto (tgt := 124) C.1 C.2.1 (dk_at dkX6_look 117 rfl) (by decide) ?_
                exact ih x70 y66 v48 _ _ _ w (lv_sub hl [0, 2, 1, 4, 5] rfl) hf
              · have hf := (if_neg c69).symm.trans hf
                refine lv_iload C.1 C.2.1 (dk_at dkX6_look 112 rfl) (lv_at hl 1 rfl) ?_
                refine lv_goto (tgt := 220) C.1 C.2.1 (dk_at dkX6_look 113 rfl) (by decide) ?_
                refine lv_istore_n (lv' := [(3, .int v52), (4, .int y66), (6, .int v52), (5, .int v46), (0, .ref (a_m 0)), (2, .int p2)]) C.1 C.2.1 (dk_at dkX6_look 115 rfl) rfl hl (by decide) rfl (fun ls hl => ?_)
                obtain ⟨x71, ex71⟩ : ∃ z : Int32, z = v46 + 1 := ⟨_, rfl⟩
                have hf := nm_at ex71 hf
                refine lv_iinc (v := x71) (lv' := [(5, .int x71), (3, .int v52), (4, .int y66), (6, .int v52), (0, .ref (a_m 0)), (2, .int p2)]) C.1 C.2.1 (dk_at dkX6_look 116 rfl) hl (k := 3) rfl (by rw [ex71]; rfl) (by decide) rfl (fun ls hl => ?_)
                refine lv_goto (tgt := 124) C.1 C.2.1 (dk_at dkX6_look 117 rfl) (by decide) ?_
                exact ih x71 y66 v52 _ _ _ w (lv_sub hl [0, 2, 1, 4, 5] rfl) hf
            clear hf
            have hf := hq67
            refine lv_icmp_ge (tgt := 204) C.1 C.2.1 (dk_at dkX6_look 104 rfl) (by decide) (fun c72 => ?_) (fun c72 => ?_)
            · have hf := (if_pos c72).symm.trans hf
              refine lv_iload C.1 C.2.1 (dk_at dkX6_look 107 rfl) (lv_at hl 2 rfl) ?_
              cases hf
              exact J68 _ _ _ w (lv_sub hl [0, 1, 3, 4, 5] rfl)
            · have hf := (if_neg c72).symm.trans hf
              refine lv_iload C.1 C.2.1 (dk_at dkX6_look 105 rfl) (lv_at hl 1 rfl) ?_
              refine lv_goto (tgt := 206) C.1 C.2.1 (dk_at dkX6_look 106 rfl) (by decide) ?_
              cases hf
              exact J68 _ _ _ w (lv_sub hl [0, 1, 3, 4, 5] rfl)
      refine L49 _ ?_ 4096 0 (-4) v15 _ _ _ w (lv_sub hl [0, 1, 2, 3, 4] rfl) hf
      clear hf
      intro v46 v47 v48 H locs ls w hl hf
      refine lv_iload C.1 C.2.1 (dk_at dkX6_look 118 rfl) (lv_at hl 0 rfl) ?_
      refine lv_bipush (v := (-4)) C.1 C.2.1 (dk_at dkX6_look 119 rfl) (by decide) ?_
      refine lv_icmp_ne (tgt := 239) C.1 C.2.1 (dk_at dkX6_look 120 rfl) (by decide) (fun c73 => ?_) (fun c73 => ?_)
      · have hf := (if_neg c73).symm.trans hf
        refine lv_iload_n C.1 C.2.1 (dk_at dkX6_look 123 rfl) rfl (lv_at hl 2 rfl) ?_
        refine lv_if_ne (tgt := 248) C.1 C.2.1 (dk_at dkX6_look 124 rfl) (by decide) (fun c74 => ?_) (fun c74 => ?_)
        · have hf := (if_neg c74).symm.trans hf
          refine lv_iload_n C.1 C.2.1 (dk_at dkX6_look 127 rfl) rfl (lv_at hl 1 rfl) ?_
          cases hf
          exact fin _ _ _ _ _ (dk_at dkX6_look 128 rfl) rfl w
        · have hf := (if_pos c74).symm.trans hf
          refine lv_iload C.1 C.2.1 (dk_at dkX6_look 125 rfl) (lv_at hl 0 rfl) ?_
          refine lv_goto (tgt := 249) C.1 C.2.1 (dk_at dkX6_look 126 rfl) (by decide) ?_
          cases hf
          exact fin _ _ _ _ _ (dk_at dkX6_look 128 rfl) rfl w
      · have hf := (if_pos c73).symm.trans hf
        refine lv_bipush (v := (-4)) C.1 C.2.1 (dk_at dkX6_look 121 rfl) (by decide) ?_
        refine lv_goto (tgt := 249) C.1 C.2.1 (dk_at dkX6_look 122 rfl) (by decide) ?_
        cases hf
        exact fin _ _ _ _ _ (dk_at dkX6_look 128 rfl) rfl w
    · have hf := (if_pos c6).symm.trans hf
      refine lv_iconst (v := (-1)) C.1 C.2.1 (dk_at dkX6_look 7 rfl) (by decide) ?_
      cases hf
      exact fin _ _ _ _ _ (dk_at dkX6_look 8 rfl) rfl w
-- X6.drift
abbrev tbX6_drift : List (Nat × Instr × Nat) := [(0, .iload_n 2, 1), (1, .i2l, 1), (2, .lconst 1, 1), (3, .ldc2_w 299, 3), (6, .invokestatic 83, 3), (9, .ifCond .eq 10, 3), (12, .iload_n 3, 1), (13, .invokestatic 243, 3), (16, .ifCond .ne 5, 3), (19, .iconst (-1), 1), (20, .ireturn, 1), (21, .aload_n 0, 1), (22, .getfield 7, 3), (25, .bipush 43, 2), (27, .iaload, 1), (28, .ifCond .ne 6, 3), (31, .bipush (-2), 2), (33, .ireturn, 1), (34, .iload_n 1, 1), (35, .istore 4, 2), (37, .iconst 0, 1), (38, .istore 5, 2), (40, .iconst 0, 1), (41, .istore 6, 2), (43, .iload 6, 2), (45, .aload_n 0, 1), (46, .getfield 7, 3), (49, .bipush 43, 2), (51, .iaload, 1), (52, .if_icmp .ge 57, 3), (55, .aload_n 0, 1), (56, .getfield 47, 3), (59, .iconst 2, 1), (60, .iload 6, 2), (62, .imul, 1), (63, .aload_n 0, 1), (64, .getfield 7, 3), (67, .bipush 18, 2), (69, .iconst 5, 1), (70, .iload 6, 2), (72, .imul, 1), (73, .iadd, 1), (74, .iconst 2, 1), (75, .iadd, 1), (76, .iaload, 1), (77, .iastore, 1), (78, .aload_n 0, 1), (79, .getfield 47, 3), (82, .iconst 2, 1), (83, .iload 6, 2), (85, .imul, 1), (86, .iconst 1, 1), (87, .iadd, 1), (88, .aload_n 0, 1), (89, .getfield 7, 3), (92, .bipush 18, 2), (94, .iconst 5, 1), (95, .iload 6, 2), (97, .imul, 1), (98, .iadd, 1), (99, .iconst 3, 1), (100, .iadd, 1), (101, .iaload, 1), (102, .iastore, 1), (103, .iinc 6 1, 3), (106, .goto (-63), 3), (109, .iconst 0, 1), (110, .istore 6, 2), (112, .iload 6, 2), (114, .iload_n 2, 1), (115, .if_icmp .ge 153, 3), (118, .iload 4, 2), (120, .ldc_w 301, 3), (123, .imul, 1), (124, .sipush 12345, 3), (127, .iadd, 1), (128, .istore 4, 2), (130, .iload 4, 2), (132, .bipush 16, 2), (134, .ishr, 1), (135, .sipush 32767, 3), (138, .iand, 1), (139, .istore 7, 2), (141, .iload 7, 2), (143, .aload_n 0, 1), (144, .getfield 7, 3), (147, .bipush 43, 2), (149, .iaload, 1), (150, .irem, 1), (151, .istore 8, 2), (153, .aload_n 0, 1), (154, .getfield 47, 3), (157, .iconst 2, 1), (158, .iload 8, 2), (160, .imul, 1), (161, .iload 7, 2), (163, .bipush 8, 2), (165, .idiv, 1), (166, .iconst 4, 1), (167, .irem, 1), (168, .iastore, 1), (169, .aload_n 0, 1), (170, .getfield 47, 3), (173, .iconst 2, 1), (174, .iload 8, 2), (176, .imul, 1), (177, .iconst 1, 1), (178, .iadd, 1), (179, .iconst 1, 1), (180, .iload 7, 2), (182, .bipush 32, 2), (184, .idiv, 1), (185, .bipush 9, 2), (187, .irem, 1), (188, .iadd, 1), (189, .iastore, 1), (190, .aload_n 0, 1), (191, .invokevirtual 201, 3), (194, .iconst 0, 1), (195, .istore 9, 2), (197, .iload 9, 2), (199, .aload_n 0, 1), (200, .getfield 7, 3), (203, .bipush 43, 2), (205, .iaload, 1), (206, .if_icmp .ge 43, 3), (209, .aload_n 0, 1), (210, .iload 9, 2), (212, .iconst 2, 1), (213, .aload_n 0, 1), (214, .getfield 47, 3), (217, .iconst 2, 1), (218, .iload 9, 2), (220, .imul, 1), (221, .iaload, 1), (222, .invokevirtual 255, 3), (225, .aload_n 0, 1), (226, .iload 9, 2), (228, .iconst 3, 1), (229, .aload_n 0, 1), (230, .getfield 47, 3), (233, .iconst 2, 1), (234, .iload 9, 2), (236, .imul, 1), (237, .iconst 1, 1), (238, .iadd, 1), (239, .iaload, 1), (240, .invokevirtual 255, 3), (243, .iinc 9 1, 3), (246, .goto (-49), 3), (249, .aload_n 0, 1), (250, .invokevirtual 204, 3), (253, .iload 5, 2), (255, .aload_n 0, 1), (256, .invokevirtual 246, 3), (259, .iadd, 1), (260, .istore 5, 2), (262, .iinc 6 1, 3), (265, .goto (-153), 3), (268, .iload_n 3, 1), (269, .ifCond .ne 8, 3), (272, .iload 5, 2), (274, .goto 9, 3), (277, .aload_n 0, 1), (278, .getfield 26, 3), (281, .iconst 0, 1), (282, .iaload, 1), (283, .ireturn, 1)]
theorem dkX6_drift : dk cX6_drift tbX6_drift := dk_of (by decide +kernel)
abbrev cdX6_drift : Cond := Cond.code yX6_drift cX6_drift 10 (some .int)
abbrev rmX6_drift : Room := { frames := 4, cells := 0, slots := 0, locals := 97 }
theorem mwX6_drift : Cond.instanceMethod yX6_drift ∈ wsL_law ∧ Cond.selects RX6 yX6_drift yX6_drift ∈ wsL_law ∧ Cond.initialized RX6 ∈ wsL_law ∧ cdX6_drift ∈ wsL_law := ⟨inr38 _ (List.mem_of_getElem? (i := 9) rfl), inr38 _ (List.mem_of_getElem? (i := 10) rfl), inr1 _ (List.mem_of_getElem? (i := 5) rfl), inr38 _ (List.mem_of_getElem? (i := 11) rfl)⟩
theorem hdX6_drift : yX6_drift.cls = RX6 ∧ yX6_drift.cls ≠ "java/lang/invoke/MethodHandle" ∧ yX6_drift.cls ≠ "java/lang/invoke/VarHandle" ∧ (parseMethodDescriptor yX6_drift.desc).map (fun d => d.parameters.length) = some 3 := by decide +kernel
set_option maxHeartbeats 4000000 in
set_option maxRecDepth 100000 in
theorem kX6_drift (l : Launch) (g : Gx) (sz : Nat) (a_m : Nat → Nat) (st : AI) (now : AI) (isKept : AI) (hearers : Int32) (draft : AI) (dHearers : Int32) (dWalls : Int32) (toldWinds : Int32) (tape : AI) (taped : Int32) (pos : Int32) (frm : Int32) (sort : Int32) (value : Int32) (fault : Int32) (wrongAt : Int32) (landed : AI) (landedIn : AI) (stepped : AI) (isThere : AI) (isAt : AI) (isNext : AI) (landSum : Int64) (heardSum : Int64) (allWays : Int64) (ways : AI) (drawn : AI) (lanes : AI) (sizes : AI) (cells : AI) (torn : Int32) (before : AI) (p1 : Int32) (p2 : Int32) (p3 : Int32) (res : Int32) (now_o : AI) (landed_o : AI) (landedIn_o : AI) (stepped_o : AI) (drawn_o : AI) (hf : fX6_drift p1 p2 p3 st now hearers landed landedIn stepped drawn = some (res, now_o, landed_o, landedIn_o, stepped_o, drawn_o)) : Met l yX6_drift (cdX6_drift :: wsL_law) rmX6_drift (va_Pc [.ref (a_m 0), .int p1, .int p2, .int p3] (RWp g sz (wM g a_m st now isKept hearers draft dHearers dWalls toldWinds tape taped pos frm sort value fault wrongAt landed landedIn stepped isThere isAt isNext landSum heardSum allWays ways drawn lanes sizes cells torn before))) (va_Qi (fun x (_ : Unit) => x = res) (fun _ => RWq g (va_A (wM g a_m st now isKept hearers draft dHearers dWalls toldWinds tape taped pos frm sort value fault wrongAt landed landedIn stepped isThere isAt isNext landSum heardSum allWays ways drawn lanes sizes cells torn before) sz) (wM g a_m st now_o isKept hearers draft dHearers dWalls toldWinds tape taped pos frm sort value fault wrongAt landed_o landedIn_o stepped_o isThere isAt isNext landSum heardSum allWays ways drawn_o lanes sizes cells torn before)) (va_A (wM g a_m st now isKept hearers draft dHearers dWalls toldWinds tape taped pos frm sort value fault wrongAt landed landedIn stepped isThere isAt isNext landSum heardSum allWays ways drawn lanes sizes cells torn before) sz)) 0 0 (va_A (wM g a_m st now isKept hearers draft dHearers dWalls toldWinds tape taped pos frm sort value fault wrongAt landed landedIn stepped isThere isAt isNext landSum heardSum allWays ways drawn lanes sizes cells torn before) sz) := by
  refine Met_rwi (cc := cX6_drift) (maxL := 10) (by decide) rfl (Nat.le_of_ble_eq_true rfl) ?_
  intro P E Z Mi AR BE ME CO A Q C hK hA fin w ls hl
  have hl : lv_has ls 10 [(0, .ref (a_m 0)), (1, .int p1), (2, .int p2), (3, .int p3)] := hl
  unfold fX6_drift at hf
  refine lv_iload_n C.1 C.2.1 (dk_at dkX6_drift 0 rfl) rfl (lv_at hl 2 rfl) ?_
  refine lv_i2l C.1 C.2.1 (dk_at dkX6_drift 1 rfl) rfl ?_
  refine lv_topl (fun x1 ex1 => ?_)
  have hf := nm_at ex1 hf
  refine lv_lconst (v := 1) C.1 C.2.1 (dk_at dkX6_drift 2 rfl) (by decide) ?_
  refine lv_ldc2 (v := 60) C.1 C.2.1 C.2.2.2.1 (C.2.2.2.2 _ (List.mem_cons_of_mem _ (inr38 _ (List.mem_of_getElem? (i := 12) rfl)))) (dk_at dkX6_drift 3 rfl) ?_
  obtain ⟨r2, hq3, hf⟩ := bd1_at hf
  refine r_st (As := [.long x1, .long 1, .long 60]) (rest := []) C (kX6_in l x1 1 60 r2 hq3) (cwS0 C (inr5 _ (List.mem_of_getElem? (i := 21) rfl)) mwX6_in hdX6_in ⟨Nat.le_of_ble_eq_true rfl, Nat.le_of_ble_eq_true rfl⟩) rfl hl.1 rfl (Nat.le_of_ble_eq_true rfl) ⟨Nat.zero_le _, Nat.zero_le _⟩ (dk_at dkX6_drift 4 rfl) ?_
  refine lv_if_eq (tgt := 19) C.1 C.2.1 (dk_at dkX6_drift 5 rfl) (by decide) (fun c4 => ?_) (fun c4 => ?_)
  · have hf := (if_pos c4).symm.trans hf
    refine lv_iconst (v := (-1)) C.1 C.2.1 (dk_at dkX6_drift 9 rfl) (by decide) ?_
    cases hf
    exact fin _ _ _ _ _ (dk_at dkX6_drift 10 rfl) rfl w
  · have hf := (if_neg c4).symm.trans hf
    refine lv_iload_n C.1 C.2.1 (dk_at dkX6_drift 6 rfl) rfl (lv_at hl 3 rfl) ?_
    obtain ⟨r5, hq6, hf⟩ := bd1_at hf
    refine r_st (As := [.int p3]) (rest := []) C (kX6_isPart l p3 r5 hq6) (cwS0 C (inr26 _ (List.mem_of_getElem? (i := 22) rfl)) mwX6_isPart hdX6_isPart ⟨Nat.le_of_ble_eq_true rfl, Nat.le_of_ble_eq_true rfl⟩) rfl hl.1 rfl (Nat.le_of_ble_eq_true rfl) ⟨Nat.zero_le _, Nat.zero_le _⟩ (dk_at dkX6_drift 7 rfl) ?_
    refine lv_if_ne (tgt := 21) C.1 C.2.1 (dk_at dkX6_drift 8 rfl) (by decide) (fun c7 => ?_) (fun c7 => ?_)
    · have hf := (if_neg c7).symm.trans hf
      refine lv_aload_n C.1 C.2.1 (dk_at dkX6_drift 11 rfl) rfl (lv_at hl 0 rfl) ?_
      refine r_get (v := .ref (a_m 1)) C hK w.1 (fun w h => List.mem_cons_of_mem _ (inlX6 w h)) 0 rfl rfl 0 (by decide) (List.mem_cons_of_mem _ (inr4 _ (List.mem_of_getElem? (i := 4) rfl))) rfl (dk_at dkX6_drift 12 rfl) ?_
      refine lv_bipush (v := 43) C.1 C.2.1 (dk_at dkX6_drift 13 rfl) (by decide) ?_
      refine r_iald (k := 43) (f := st) C hK w.1 1 rfl (in_c (by decide)) (by decide) (dk_at dkX6_drift 14 rfl) ?_
      refine lv_if_ne (tgt := 34) C.1 C.2.1 (dk_at dkX6_drift 15 rfl) (by decide) (fun c8 => ?_) (fun c8 => ?_)
      · have hf := (if_neg c8).symm.trans hf
        refine lv_iload_n C.1 C.2.1 (dk_at dkX6_drift 18 rfl) rfl (lv_at hl 1 rfl) ?_
        refine lv_istore (lv' := [(4, .int p1), (0, .ref (a_m 0)), (1, .int p1), (2, .int p2), (3, .int p3)]) C.1 C.2.1 (dk_at dkX6_drift 19 rfl) hl (by decide) rfl (fun ls hl => ?_)
        refine lv_iconst (v := 0) C.1 C.2.1 (dk_at dkX6_drift 20 rfl) (by decide) ?_
        refine lv_istore (lv' := [(5, .int 0), (4, .int p1), (0, .ref (a_m 0)), (1, .int p1), (2, .int p2), (3, .int p3)]) C.1 C.2.1 (dk_at dkX6_drift 21 rfl) hl (by decide) rfl (fun ls hl => ?_)
        refine lv_iconst (v := 0) C.1 C.2.1 (dk_at dkX6_drift 22 rfl) (by decide) ?_
        refine lv_istore (lv' := [(6, .int 0), (5, .int 0), (4, .int p1), (0, .ref (a_m 0)), (1, .int p1), (2, .int p2), (3, .int p3)]) C.1 C.2.1 (dk_at dkX6_drift 23 rfl) hl (by decide) rfl (fun ls hl => ?_)
        have L11 : ∀ (K : Int32 → AI → Option (Int32 × AI × AI × AI × AI × AI)), (∀ (v9 : Int32) (drawn_10 : AI) (H : Heap) (locs : List Loc) (ls : Array Slot), Wd g A Z.heap (wM g a_m st now isKept hearers draft dHearers dWalls toldWinds tape taped pos frm sort value fault wrongAt landed landedIn stepped isThere isAt isNext landSum heardSum allWays ways drawn_10 lanes sizes cells torn before) H locs → lv_has ls 10 [(5, .int 0), (4, .int p1), (0, .ref (a_m 0)), (2, .int p2), (3, .int p3)] → K v9 drawn_10 = some (res, now_o, landed_o, landedIn_o, stepped_o, drawn_o) → W P l E rmX6_drift Z Mi AR BE ME CO H locs 0 0 Q (F0 Mi 109 ls [])) → ∀ (n : Nat), ∀ (v9 : Int32) (drawn_10 : AI) (H : Heap) (locs : List Loc) (ls : Array Slot), Wd g A Z.heap (wM g a_m st now isKept hearers draft dHearers dWalls toldWinds tape taped pos frm sort value fault wrongAt landed landedIn stepped isThere isAt isNext landSum heardSum allWays ways drawn_10 lanes sizes cells torn before) H locs → lv_has ls 10 [(6, .int v9), (5, .int 0), (4, .int p1), (0, .ref (a_m 0)), (2, .int p2), (3, .int p3)] → fX6_drift_L43 st K n v9 drawn_10 = some (res, now_o, landed_o, landedIn_o, stepped_o, drawn_o) → W P l E rmX6_drift Z Mi AR BE ME CO H locs 0 0 Q (F0 Mi 43 ls []) := by
          intro K hKe n
          induction n with
          | zero => intro v9 drawn_10 H locs ls w hl hf; cases hf
          | succ n ih =>
            intro v9 drawn_10 H locs ls w hl hf
            rw [fX6_drift_L43] at hf
            refine lv_iload C.1 C.2.1 (dk_at dkX6_drift 24 rfl) (lv_at hl 0 rfl) ?_
            refine lv_aload_n C.1 C.2.1 (dk_at dkX6_drift 25 rfl) rfl (lv_at hl 3 rfl) ?_
            refine r_get (v := .ref (a_m 1)) C hK w.1 (fun w h => List.mem_cons_of_mem _ (inlX6 w h)) 0 rfl rfl 0 (by decide) (List.mem_cons_of_mem _ (inr4 _ (List.mem_of_getElem? (i := 4) rfl))) rfl (dk_at dkX6_drift 26 rfl) ?_
            refine lv_bipush (v := 43) C.1 C.2.1 (dk_at dkX6_drift 27 rfl) (by decide) ?_
            refine r_iald (k := 43) (f := st) C hK w.1 1 rfl (in_c (by decide)) (by decide) (dk_at dkX6_drift 28 rfl) ?_
            refine lv_icmp_ge (tgt := 109) C.1 C.2.1 (dk_at dkX6_drift 29 rfl) (by decide) (fun c12 => ?_) (fun c12 => ?_)
            · have hf := (if_pos c12).symm.trans hf
              exact hKe v9 drawn_10 _ _ _ w (lv_sub hl [1, 2, 3, 4, 5] rfl) hf
            · have hf := (if_neg c12).symm.trans hf
              refine lv_aload_n C.1 C.2.1 (dk_at dkX6_drift 30 rfl) rfl (lv_at hl 3 rfl) ?_
              refine r_get (v := .ref (a_m 13)) C hK w.1 (fun w h => List.mem_cons_of_mem _ (inlX6 w h)) 0 rfl rfl 26 (by decide) (List.mem_cons_of_mem _ (inr4 _ (List.mem_of_getElem? (i := 16) rfl))) rfl (dk_at dkX6_drift 31 rfl) ?_
              refine lv_iconst (v := 2) C.1 C.2.1 (dk_at dkX6_drift 32 rfl) (by decide) ?_
              refine lv_iload C.1 C.2.1 (dk_at dkX6_drift 33 rfl) (lv_at hl 0 rfl) ?_
              refine lv_imul C.1 C.2.1 (dk_at dkX6_drift 34 rfl) ?_
              refine lv_topi (fun x13 ex13 => ?_)
              have hf := nm_at ex13 hf
              refine lv_aload_n C.1 C.2.1 (dk_at dkX6_drift 35 rfl) rfl (lv_at hl 3 rfl) ?_
              refine r_get (v := .ref (a_m 1)) C hK w.1 (fun w h => List.mem_cons_of_mem _ (inlX6 w h)) 0 rfl rfl 0 (by decide) (List.mem_cons_of_mem _ (inr4 _ (List.mem_of_getElem? (i := 4) rfl))) rfl (dk_at dkX6_drift 36 rfl) ?_
              refine lv_bipush (v := 18) C.1 C.2.1 (dk_at dkX6_drift 37 rfl) (by decide) ?_
              refine lv_iconst (v := 5) C.1 C.2.1 (dk_at dkX6_drift 38 rfl) (by decide) ?_
              refine lv_iload C.1 C.2.1 (dk_at dkX6_drift 39 rfl) (lv_at hl 0 rfl) ?_
              refine lv_imul C.1 C.2.1 (dk_at dkX6_drift 40 rfl) ?_
              refine lv_iadd C.1 C.2.1 (dk_at dkX6_drift 41 rfl) ?_
              refine lv_topi (fun x14 ex14 => ?_)
              have hf := nm_at ex14 hf
              refine lv_iconst (v := 2) C.1 C.2.1 (dk_at dkX6_drift 42 rfl) (by decide) ?_
              refine lv_iadd C.1 C.2.1 (dk_at dkX6_drift 43 rfl) ?_
              refine lv_topi (fun x15 ex15 => ?_)
              have hf := nm_at ex15 hf
              obtain ⟨h16, hf⟩ := gd_at hf
              refine r_iald (k := x15.toNatClampNeg) (f := st) C hK w.1 1 rfl h16 rfl (dk_at dkX6_drift 44 rfl) ?_
              refine lv_topi (fun x17 ex17 => ?_)
              have hf := nm_at ex17 hf
              obtain ⟨h18, hf⟩ := gd_at hf
              refine r_iast (k := x13.toNatClampNeg) (f := drawn_10) C hK w 13 rfl h18 rfl (dk_at dkX6_drift 45 rfl) (fun H locs w => ?_)
              obtain ⟨drawn_19, edrawn_19⟩ : ∃ z : AI, z = upd drawn_10 x13.toNatClampNeg x17 := ⟨_, rfl⟩
              have hf := nm_at edrawn_19 hf
              have w : Wd g A Z.heap (wM g a_m st now isKept hearers draft dHearers dWalls toldWinds tape taped pos frm sort value fault wrongAt landed landedIn stepped isThere isAt isNext landSum heardSum allWays ways drawn_19 lanes sizes cells torn before) H locs := by rw [edrawn_19]; exact w
              refine lv_aload_n C.1 C.2.1 (dk_at dkX6_drift 46 rfl) rfl (lv_at hl 3 rfl) ?_
              refine r_get (v := .ref (a_m 13)) C hK w.1 (fun w h => List.mem_cons_of_mem _ (inlX6 w h)) 0 rfl rfl 26 (by decide) (List.mem_cons_of_mem _ (inr4 _ (List.mem_of_getElem? (i := 16) rfl))) rfl (dk_at dkX6_drift 47 rfl) ?_
              refine lv_iconst (v := 2) C.1 C.2.1 (dk_at dkX6_drift 48 rfl) (by decide) ?_
              refine lv_iload C.1 C.2.1 (dk_at dkX6_drift 49 rfl) (lv_at hl 0 rfl) ?_
              refine lv_imul C.1 C.2.1 (dk_at dkX6_drift 50 rfl) ?_
              refine lv_topi (fun x20 ex20 => ?_)
              have hf := nm_at ex20 hf
              refine lv_iconst (v := 1) C.1 C.2.1 (dk_at dkX6_drift 51 rfl) (by decide) ?_
              refine lv_iadd C.1 C.2.1 (dk_at dkX6_drift 52 rfl) ?_
              refine lv_topi (fun x21 ex21 => ?_)
              have hf := nm_at ex21 hf
              refine lv_aload_n C.1 C.2.1 (dk_at dkX6_drift 53 rfl) rfl (lv_at hl 3 rfl) ?_
              refine r_get (v := .ref (a_m 1)) C hK w.1 (fun w h => List.mem_cons_of_mem _ (inlX6 w h)) 0 rfl rfl 0 (by decide) (List.mem_cons_of_mem _ (inr4 _ (List.mem_of_getElem? (i := 4) rfl))) rfl (dk_at dkX6_drift 54 rfl) ?_
              refine lv_bipush (v := 18) C.1 C.2.1 (dk_at dkX6_drift 55 rfl) (by decide) ?_
              refine lv_iconst (v := 5) C.1 C.2.1 (dk_at dkX6_drift 56 rfl) (by decide) ?_
              refine lv_iload C.1 C.2.1 (dk_at dkX6_drift 57 rfl) (lv_at hl 0 rfl) ?_
              refine lv_imul C.1 C.2.1 (dk_at dkX6_drift 58 rfl) ?_
              refine lv_iadd C.1 C.2.1 (dk_at dkX6_drift 59 rfl) ?_
              refine lv_topi (fun x22 ex22 => ?_)
              have hf := nm_at ex22 hf
              refine lv_iconst (v := 3) C.1 C.2.1 (dk_at dkX6_drift 60 rfl) (by decide) ?_
              refine lv_iadd C.1 C.2.1 (dk_at dkX6_drift 61 rfl) ?_
              refine lv_topi (fun x23 ex23 => ?_)
              have hf := nm_at ex23 hf
              obtain ⟨h24, hf⟩ := gd_at hf
              refine r_iald (k := x23.toNatClampNeg) (f := st) C hK w.1 1 rfl h24 rfl (dk_at dkX6_drift 62 rfl) ?_
              refine lv_topi (fun x25 ex25 => ?_)
              have hf := nm_at ex25 hf
              obtain ⟨h26, hf⟩ := gd_at hf
              refine r_iast (k := x21.toNatClampNeg) (f := drawn_19) C hK w 13 rfl h26 rfl (dk_at dkX6_drift 63 rfl) (fun H locs w => ?_)
              obtain ⟨drawn_27, edrawn_27⟩ : ∃ z : AI, z = upd drawn_19 x21.toNatClampNeg x25 := ⟨_, rfl⟩
              have hf := nm_at edrawn_27 hf
              have w : Wd g A Z.heap (wM g a_m st now isKept hearers draft dHearers dWalls toldWinds tape taped pos frm sort value fault wrongAt landed landedIn stepped isThere isAt isNext landSum heardSum allWays ways drawn_27 lanes sizes cells torn before) H locs := by rw [edrawn_27]; exact w
              obtain ⟨x28, ex28⟩ : ∃ z : Int32, z = v9 + 1 := ⟨_, rfl⟩
              have hf := nm_at ex28 hf
              refine lv_iinc (v := x28) (lv' := [(6, .int x28), (5, .int 0), (4, .int p1), (0, .ref (a_m 0)), (2, .int p2), (3, .int p3)]) C.1 C.2.1 (dk_at dkX6_drift 64 rfl) hl (k := 0) rfl (by rw [ex28]; rfl) (by decide) rfl (fun ls hl => ?_)
              refine lv_goto (tgt := 43) C.1 C.2.1 (dk_at dkX6_drift 65 rfl) (by decide) ?_
              exact ih x28 drawn_27 _ _ _ w (lv_sub hl [0, 1, 2, 3, 4, 5] rfl) hf
        refine L11 _ ?_ 4096 0 drawn _ _ _ w (lv_sub hl [0, 1, 2, 3, 5, 6] rfl) hf
        clear hf
        intro v9 drawn_10 H locs ls w hl hf
        refine lv_iconst (v := 0) C.1 C.2.1 (dk_at dkX6_drift 66 rfl) (by decide) ?_
        refine lv_istore (lv' := [(6, .int 0), (5, .int 0), (4, .int p1), (0, .ref (a_m 0)), (2, .int p2), (3, .int p3)]) C.1 C.2.1 (dk_at dkX6_drift 67 rfl) hl (by decide) rfl (fun ls hl => ?_)
        have L37 : ∀ (K : Int32 → Int32 → Int32 → AI → AI → AI → AI → AI → Option (Int32 × AI × AI × AI × AI × AI)), (∀ (v29 : Int32) (v30 : Int32) (v31 : Int32) (now_32 : AI) (landed_33 : AI) (landedIn_34 : AI) (stepped_35 : AI) (drawn_36 : AI) (H : Heap) (locs : List Loc) (ls : Array Slot), Wd g A Z.heap (wM g a_m st now_32 isKept hearers draft dHearers dWalls toldWinds tape taped pos frm sort value fault wrongAt landed_33 landedIn_34 stepped_35 isThere isAt isNext landSum heardSum allWays ways drawn_36 lanes sizes cells torn before) H locs → lv_has ls 10 [(5, .int v30), (0, .ref (a_m 0)), (3, .int p3)] → K v29 v30 v31 now_32 landed_33 landedIn_34 stepped_35 drawn_36 = some (res, now_o, landed_o, landedIn_o, stepped_o, drawn_o) → W P l E rmX6_drift Z Mi AR BE ME CO H locs 0 0 Q (F0 Mi 268 ls [])) → ∀ (n : Nat), ∀ (v29 : Int32) (v30 : Int32) (v31 : Int32) (now_32 : AI) (landed_33 : AI) (landedIn_34 : AI) (stepped_35 : AI) (drawn_36 : AI) (H : Heap) (locs : List Loc) (ls : Array Slot), Wd g A Z.heap (wM g a_m st now_32 isKept hearers draft dHearers dWalls toldWinds tape taped pos frm sort value fault wrongAt landed_33 landedIn_34 stepped_35 isThere isAt isNext landSum heardSum allWays ways drawn_36 lanes sizes cells torn before) H locs → lv_has ls 10 [(6, .int v29), (5, .int v30), (4, .int v31), (0, .ref (a_m 0)), (2, .int p2), (3, .int p3)] → fX6_drift_L112 st hearers p2 K n v29 v30 v31 now_32 landed_33 landedIn_34 stepped_35 drawn_36 = some (res, now_o, landed_o, landedIn_o, stepped_o, drawn_o) → W P l E rmX6_drift Z Mi AR BE ME CO H locs 0 0 Q (F0 Mi 112 ls []) := by
          intro K hKe n
          induction n with
          | zero => intro v29 v30 v31 now_32 landed_33 landedIn_34 stepped_35 drawn_36 H locs ls w hl hf; cases hf
          | succ n ih =>
            intro v29 v30 v31 now_32 landed_33 landedIn_34 stepped_35 drawn_36 H locs ls w hl hf
            rw [fX6_drift_L112] at hf
            refine lv_iload C.1 C.2.1 (dk_at dkX6_drift 68 rfl) (lv_at hl 0 rfl) ?_
            refine lv_iload_n C.1 C.2.1 (dk_at dkX6_drift 69 rfl) rfl (lv_at hl 4 rfl) ?_
            refine lv_icmp_ge (tgt := 268) C.1 C.2.1 (dk_at dkX6_drift 70 rfl) (by decide) (fun c38 => ?_) (fun c38 => ?_)
            · have hf := (if_pos c38).symm.trans hf
              exact hKe v29 v30 v31 now_32 landed_33 landedIn_34 stepped_35 drawn_36 _ _ _ w (lv_sub hl [1, 3, 5] rfl) hf
            · have hf := (if_neg c38).symm.trans hf
              refine lv_iload C.1 C.2.1 (dk_at dkX6_drift 71 rfl) (lv_at hl 2 rfl) ?_
              refine lv_ldcw (v := 1103515245) C.1 C.2.1 C.2.2.2.1 (C.2.2.2.2 _ (List.mem_cons_of_mem _ (inr38 _ (List.mem_of_getElem? (i := 13) rfl)))) (dk_at dkX6_drift 72 rfl) ?_
              refine lv_imul C.1 C.2.1 (dk_at dkX6_drift 73 rfl) ?_
              refine lv_topi (fun x39 ex39 => ?_)
              have hf := nm_at ex39 hf
              refine lv_sipush (v := 12345) C.1 C.2.1 (dk_at dkX6_drift 74 rfl) (by decide) ?_
              refine lv_iadd C.1 C.2.1 (dk_at dkX6_drift 75 rfl) ?_
              refine lv_topi (fun x40 ex40 => ?_)
              have hf := nm_at ex40 hf
              refine lv_istore (lv' := [(4, .int x40), (6, .int v29), (5, .int v30), (0, .ref (a_m 0)), (2, .int p2), (3, .int p3)]) C.1 C.2.1 (dk_at dkX6_drift 76 rfl) hl (by decide) rfl (fun ls hl => ?_)
              refine lv_iload C.1 C.2.1 (dk_at dkX6_drift 77 rfl) (lv_at hl 0 rfl) ?_
              refine lv_bipush (v := 16) C.1 C.2.1 (dk_at dkX6_drift 78 rfl) (by decide) ?_
              refine lv_ishr C.1 C.2.1 (dk_at dkX6_drift 79 rfl) ?_
              refine lv_topi (fun x41 ex41 => ?_)
              have hf := nm_at ex41 hf
              refine lv_sipush (v := 32767) C.1 C.2.1 (dk_at dkX6_drift 80 rfl) (by decide) ?_
              refine lv_iand C.1 C.2.1 (dk_at dkX6_drift 81 rfl) ?_
              refine lv_topi (fun x42 ex42 => ?_)
              have hf := nm_at ex42 hf
              refine lv_istore (lv' := [(7, .int x42), (4, .int x40), (6, .int v29), (5, .int v30), (0, .ref (a_m 0)), (2, .int p2), (3, .int p3)]) C.1 C.2.1 (dk_at dkX6_drift 82 rfl) hl (by decide) rfl (fun ls hl => ?_)
              refine lv_iload C.1 C.2.1 (dk_at dkX6_drift 83 rfl) (lv_at hl 0 rfl) ?_
              refine lv_aload_n C.1 C.2.1 (dk_at dkX6_drift 84 rfl) rfl (lv_at hl 4 rfl) ?_
              refine r_get (v := .ref (a_m 1)) C hK w.1 (fun w h => List.mem_cons_of_mem _ (inlX6 w h)) 0 rfl rfl 0 (by decide) (List.mem_cons_of_mem _ (inr4 _ (List.mem_of_getElem? (i := 4) rfl))) rfl (dk_at dkX6_drift 85 rfl) ?_
              refine lv_bipush (v := 43) C.1 C.2.1 (dk_at dkX6_drift 86 rfl) (by decide) ?_
              refine r_iald (k := 43) (f := st) C hK w.1 1 rfl (in_c (by decide)) (by decide) (dk_at dkX6_drift 87 rfl) ?_
              obtain ⟨h43, hf⟩ := gz_at hf
              refine lv_irem C.1 C.2.1 (dk_at dkX6_drift 88 rfl) h43 ?_
              refine lv_topi (fun x44 ex44 => ?_)
              have hf := nm_at ex44 hf
              refine lv_istore (lv' := [(8, .int x44), (7, .int x42), (4, .int x40), (6, .int v29), (5, .int v30), (0, .ref (a_m 0)), (2, .int p2), (3, .int p3)]) C.1 C.2.1 (dk_at dkX6_drift 89 rfl) hl (by decide) rfl (fun ls hl => ?_)
              refine lv_aload_n C.1 C.2.1 (dk_at dkX6_drift 90 rfl) rfl (lv_at hl 5 rfl) ?_
              refine r_get (v := .ref (a_m 13)) C hK w.1 (fun w h => List.mem_cons_of_mem _ (inlX6 w h)) 0 rfl rfl 26 (by decide) (List.mem_cons_of_mem _ (inr4 _ (List.mem_of_getElem? (i := 16) rfl))) rfl (dk_at dkX6_drift 91 rfl) ?_
              refine lv_iconst (v := 2) C.1 C.2.1 (dk_at dkX6_drift 92 rfl) (by decide) ?_
              refine lv_iload C.1 C.2.1 (dk_at dkX6_drift 93 rfl) (lv_at hl 0 rfl) ?_
              refine lv_imul C.1 C.2.1 (dk_at dkX6_drift 94 rfl) ?_
              refine lv_topi (fun x45 ex45 => ?_)
              have hf := nm_at ex45 hf
              refine lv_iload C.1 C.2.1 (dk_at dkX6_drift 95 rfl) (lv_at hl 1 rfl) ?_
              refine lv_bipush (v := 8) C.1 C.2.1 (dk_at dkX6_drift 96 rfl) (by decide) ?_
              refine lv_idiv C.1 C.2.1 (dk_at dkX6_drift 97 rfl) (by decide) ?_
              refine lv_topi (fun x46 ex46 => ?_)
              have hf := nm_at ex46 hf
              refine lv_iconst (v := 4) C.1 C.2.1 (dk_at dkX6_drift 98 rfl) (by decide) ?_
              refine lv_irem C.1 C.2.1 (dk_at dkX6_drift 99 rfl) (by decide) ?_
              refine lv_topi (fun x47 ex47 => ?_)
              have hf := nm_at ex47 hf
              obtain ⟨h48, hf⟩ := gd_at hf
              refine r_iast (k := x45.toNatClampNeg) (f := drawn_36) C hK w 13 rfl h48 rfl (dk_at dkX6_drift 100 rfl) (fun H locs w => ?_)
              obtain ⟨drawn_49, edrawn_49⟩ : ∃ z : AI, z = upd drawn_36 x45.toNatClampNeg x47 := ⟨_, rfl⟩
              have hf := nm_at edrawn_49 hf
              have w : Wd g A Z.heap (wM g a_m st now_32 isKept hearers draft dHearers dWalls toldWinds tape taped pos frm sort value fault wrongAt landed_33 landedIn_34 stepped_35 isThere isAt isNext landSum heardSum allWays ways drawn_49 lanes sizes cells torn before) H locs := by rw [edrawn_49]; exact w
              refine lv_aload_n C.1 C.2.1 (dk_at dkX6_drift 101 rfl) rfl (lv_at hl 5 rfl) ?_
              refine r_get (v := .ref (a_m 13)) C hK w.1 (fun w h => List.mem_cons_of_mem _ (inlX6 w h)) 0 rfl rfl 26 (by decide) (List.mem_cons_of_mem _ (inr4 _ (List.mem_of_getElem? (i := 16) rfl))) rfl (dk_at dkX6_drift 102 rfl) ?_
              refine lv_iconst (v := 2) C.1 C.2.1 (dk_at dkX6_drift 103 rfl) (by decide) ?_
              refine lv_iload C.1 C.2.1 (dk_at dkX6_drift 104 rfl) (lv_at hl 0 rfl) ?_
              refine lv_imul C.1 C.2.1 (dk_at dkX6_drift 105 rfl) ?_
              refine lv_topi (fun x50 ex50 => ?_)
              have hf := nm_at ex50 hf
              refine lv_iconst (v := 1) C.1 C.2.1 (dk_at dkX6_drift 106 rfl) (by decide) ?_
              refine lv_iadd C.1 C.2.1 (dk_at dkX6_drift 107 rfl) ?_
              refine lv_topi (fun x51 ex51 => ?_)
              have hf := nm_at ex51 hf
              refine lv_iconst (v := 1) C.1 C.2.1 (dk_at dkX6_drift 108 rfl) (by decide) ?_
              refine lv_iload C.1 C.2.1 (dk_at dkX6_drift 109 rfl) (lv_at hl 1 rfl) ?_
              refine lv_bipush (v := 32) C.1 C.2.1 (dk_at dkX6_drift 110 rfl) (by decide) ?_
              refine lv_idiv C.1 C.2.1 (dk_at dkX6_drift 111 rfl) (by decide) ?_
              refine lv_topi (fun x52 ex52 => ?_)
              have hf := nm_at ex52 hf
              refine lv_bipush (v := 9) C.1 C.2.1 (dk_at dkX6_drift 112 rfl) (by decide) ?_
              refine lv_irem C.1 C.2.1 (dk_at dkX6_drift 113 rfl) (by decide) ?_
              refine lv_iadd C.1 C.2.1 (dk_at dkX6_drift 114 rfl) ?_
              refine lv_topi (fun x53 ex53 => ?_)
              have hf := nm_at ex53 hf
              obtain ⟨h54, hf⟩ := gd_at hf
              refine r_iast (k := x51.toNatClampNeg) (f := drawn_49) C hK w 13 rfl h54 rfl (dk_at dkX6_drift 115 rfl) (fun H locs w => ?_)
              obtain ⟨drawn_55, edrawn_55⟩ : ∃ z : AI, z = upd drawn_49 x51.toNatClampNeg x53 := ⟨_, rfl⟩
              have hf := nm_at edrawn_55 hf
              have w : Wd g A Z.heap (wM g a_m st now_32 isKept hearers draft dHearers dWalls toldWinds tape taped pos frm sort value fault wrongAt landed_33 landedIn_34 stepped_35 isThere isAt isNext landSum heardSum allWays ways drawn_55 lanes sizes cells torn before) H locs := by rw [edrawn_55]; exact w
              refine lv_aload_n C.1 C.2.1 (dk_at dkX6_drift 116 rfl) rfl (lv_at hl 5 rfl) ?_
              obtain ⟨now_56, hq57, hf⟩ := bd1_at hf
              refine r_rwv (As := []) (rest := []) (wr := []) (ws' := wM g a_m st now_56 isKept hearers draft dHearers dWalls toldWinds tape taped pos frm sort value fault wrongAt landed_33 landedIn_34 stepped_35 isThere isAt isNext landSum heardSum allWays ways drawn_55 lanes sizes cells torn before) C (kX6_starts l g _ a_m st now_32 isKept hearers draft dHearers dWalls toldWinds tape taped pos frm sort value fault wrongAt landed_33 landedIn_34 stepped_35 isThere isAt isNext landSum heardSum allWays ways drawn_55 lanes sizes cells torn before now_56 hq57) (cwV0 C (inr17 _ (List.mem_of_getElem? (i := 3) rfl)) mwX6_starts hdX6_starts ⟨Nat.le_of_ble_eq_true rfl, Nat.le_of_ble_eq_true rfl⟩) hK w hA [0, 1, 2, 3, 4, 5, 6, 7, 8, 9, 10, 11, 12, 13, 14, 15, 16, 17] [] [0, 1, 2, 3, 4, 5, 6, 7, 8, 9, 10, 11, 12, 13, 14, 15, 16, 17] (by decide) rfl rfl (by decide) (by decide) rfl (by decide) rfl rfl rfl hl.1 rfl (Nat.le_of_ble_eq_true rfl) ⟨Nat.zero_le _, Nat.zero_le _⟩ (dk_at dkX6_drift 117 rfl) (fun H locs w => ?_)
              refine lv_iconst (v := 0) C.1 C.2.1 (dk_at dkX6_drift 118 rfl) (by decide) ?_
              refine lv_istore (lv' := [(9, .int 0), (8, .int x44), (7, .int x42), (4, .int x40), (6, .int v29), (5, .int v30), (0, .ref (a_m 0)), (2, .int p2), (3, .int p3)]) C.1 C.2.1 (dk_at dkX6_drift 119 rfl) hl (by decide) rfl (fun ls hl => ?_)
              have L60 : ∀ (K : Int32 → AI → Option (Int32 × AI × AI × AI × AI × AI)), (∀ (v58 : Int32) (now_59 : AI) (H : Heap) (locs : List Loc) (ls : Array Slot), Wd g A Z.heap (wM g a_m st now_59 isKept hearers draft dHearers dWalls toldWinds tape taped pos frm sort value fault wrongAt landed_33 landedIn_34 stepped_35 isThere isAt isNext landSum heardSum allWays ways drawn_55 lanes sizes cells torn before) H locs → lv_has ls 10 [(4, .int x40), (6, .int v29), (5, .int v30), (0, .ref (a_m 0)), (2, .int p2), (3, .int p3)] → K v58 now_59 = some (res, now_o, landed_o, landedIn_o, stepped_o, drawn_o) → W P l E rmX6_drift Z Mi AR BE ME CO H locs 0 0 Q (F0 Mi 249 ls [])) → ∀ (n : Nat), ∀ (v58 : Int32) (now_59 : AI) (H : Heap) (locs : List Loc) (ls : Array Slot), Wd g A Z.heap (wM g a_m st now_59 isKept hearers draft dHearers dWalls toldWinds tape taped pos frm sort value fault wrongAt landed_33 landedIn_34 stepped_35 isThere isAt isNext landSum heardSum allWays ways drawn_55 lanes sizes cells torn before) H locs → lv_has ls 10 [(9, .int v58), (4, .int x40), (6, .int v29), (5, .int v30), (0, .ref (a_m 0)), (2, .int p2), (3, .int p3)] → fX6_drift_L197 st drawn_55 K n v58 now_59 = some (res, now_o, landed_o, landedIn_o, stepped_o, drawn_o) → W P l E rmX6_drift Z Mi AR BE ME CO H locs 0 0 Q (F0 Mi 197 ls []) := by
                intro K hKe n
                induction n with
                | zero => intro v58 now_59 H locs ls w hl hf; cases hf
                | succ n ih =>
                  intro v58 now_59 H locs ls w hl hf
                  rw [fX6_drift_L197] at hf
                  refine lv_iload C.1 C.2.1 (dk_at dkX6_drift 120 rfl) (lv_at hl 0 rfl) ?_
                  refine lv_aload_n C.1 C.2.1 (dk_at dkX6_drift 121 rfl) rfl (lv_at hl 4 rfl) ?_
                  refine r_get (v := .ref (a_m 1)) C hK w.1 (fun w h => List.mem_cons_of_mem _ (inlX6 w h)) 0 rfl rfl 0 (by decide) (List.mem_cons_of_mem _ (inr4 _ (List.mem_of_getElem? (i := 4) rfl))) rfl (dk_at dkX6_drift 122 rfl) ?_
                  refine lv_bipush (v := 43) C.1 C.2.1 (dk_at dkX6_drift 123 rfl) (by decide) ?_
                  refine r_iald (k := 43) (f := st) C hK w.1 1 rfl (in_c (by decide)) (by decide) (dk_at dkX6_drift 124 rfl) ?_
                  refine lv_icmp_ge (tgt := 249) C.1 C.2.1 (dk_at dkX6_drift 125 rfl) (by decide) (fun c61 => ?_) (fun c61 => ?_)
                  · have hf := (if_pos c61).symm.trans hf
                    exact hKe v58 now_59 _ _ _ w (lv_sub hl [1, 2, 3, 4, 5, 6] rfl) hf
                  · have hf := (if_neg c61).symm.trans hf
                    refine lv_aload_n C.1 C.2.1 (dk_at dkX6_drift 126 rfl) rfl (lv_at hl 4 rfl) ?_
                    refine lv_iload C.1 C.2.1 (dk_at dkX6_drift 127 rfl) (lv_at hl 0 rfl) ?_
                    refine lv_iconst (v := 2) C.1 C.2.1 (dk_at dkX6_drift 128 rfl) (by decide) ?_
                    refine lv_aload_n C.1 C.2.1 (dk_at dkX6_drift 129 rfl) rfl (lv_at hl 4 rfl) ?_
                    refine r_get (v := .ref (a_m 13)) C hK w.1 (fun w h => List.mem_cons_of_mem _ (inlX6 w h)) 0 rfl rfl 26 (by decide) (List.mem_cons_of_mem _ (inr4 _ (List.mem_of_getElem? (i := 16) rfl))) rfl (dk_at dkX6_drift 130 rfl) ?_
                    refine lv_iconst (v := 2) C.1 C.2.1 (dk_at dkX6_drift 131 rfl) (by decide) ?_
                    refine lv_iload C.1 C.2.1 (dk_at dkX6_drift 132 rfl) (lv_at hl 0 rfl) ?_
                    refine lv_imul C.1 C.2.1 (dk_at dkX6_drift 133 rfl) ?_
                    refine lv_topi (fun x62 ex62 => ?_)
                    have hf := nm_at ex62 hf
                    obtain ⟨h63, hf⟩ := gd_at hf
                    refine r_iald (k := x62.toNatClampNeg) (f := drawn_55) C hK w.1 13 rfl h63 rfl (dk_at dkX6_drift 134 rfl) ?_
                    refine lv_topi (fun x64 ex64 => ?_)
                    have hf := nm_at ex64 hf
                    obtain ⟨now_65, hq66, hf⟩ := bd1_at hf
                    refine r_rwv (As := [.int v58, .int 2, .int x64]) (rest := []) (wr := []) (ws' := wM g a_m st now_65 isKept hearers draft dHearers dWalls toldWinds tape taped pos frm sort value fault wrongAt landed_33 landedIn_34 stepped_35 isThere isAt isNext landSum heardSum allWays ways drawn_55 lanes sizes cells torn before) C (kX6_becomesOf l g _ a_m st now_59 isKept hearers draft dHearers dWalls toldWinds tape taped pos frm sort value fault wrongAt landed_33 landedIn_34 stepped_35 isThere isAt isNext landSum heardSum allWays ways drawn_55 lanes sizes cells torn before v58 2 x64 now_65 hq66) (cwV0 C (inr30 _ (List.mem_of_getElem? (i := 0) rfl)) mwX6_becomesOf hdX6_becomesOf ⟨Nat.le_of_ble_eq_true rfl, Nat.le_of_ble_eq_true rfl⟩) hK w hA [0, 1, 2, 3, 4, 5, 6, 7, 8, 9, 10, 11, 12, 13, 14, 15, 16, 17] [] [0, 1, 2, 3, 4, 5, 6, 7, 8, 9, 10, 11, 12, 13, 14, 15, 16, 17] (by decide) rfl rfl (by decide) (by decide) rfl (by decide) rfl rfl rfl hl.1 rfl (Nat.le_of_ble_eq_true rfl) ⟨Nat.zero_le _, Nat.zero_le _⟩ (dk_at dkX6_drift 135 rfl) (fun H locs w => ?_)
                    refine lv_aload_n C.1 C.2.1 (dk_at dkX6_drift 136 rfl) rfl (lv_at hl 4 rfl) ?_
                    refine lv_iload C.1 C.2.1 (dk_at dkX6_drift 137 rfl) (lv_at hl 0 rfl) ?_
                    refine lv_iconst (v := 3) C.1 C.2.1 (dk_at dkX6_drift 138 rfl) (by decide) ?_
                    refine lv_aload_n C.1 C.2.1 (dk_at dkX6_drift 139 rfl) rfl (lv_at hl 4 rfl) ?_
                    refine r_get (v := .ref (a_m 13)) C hK w.1 (fun w h => List.mem_cons_of_mem _ (inlX6 w h)) 0 rfl rfl 26 (by decide) (List.mem_cons_of_mem _ (inr4 _ (List.mem_of_getElem? (i := 16) rfl))) rfl (dk_at dkX6_drift 140 rfl) ?_
                    refine lv_iconst (v := 2) C.1 C.2.1 (dk_at dkX6_drift 141 rfl) (by decide) ?_
                    refine lv_iload C.1 C.2.1 (dk_at dkX6_drift 142 rfl) (lv_at hl 0 rfl) ?_
                    refine lv_imul C.1 C.2.1 (dk_at dkX6_drift 143 rfl) ?_
                    refine lv_topi (fun x67 ex67 => ?_)
                    have hf := nm_at ex67 hf
                    refine lv_iconst (v := 1) C.1 C.2.1 (dk_at dkX6_drift 144 rfl) (by decide) ?_
                    refine lv_iadd C.1 C.2.1 (dk_at dkX6_drift 145 rfl) ?_
                    refine lv_topi (fun x68 ex68 => ?_)
                    have hf := nm_at ex68 hf
                    obtain ⟨h69, hf⟩ := gd_at hf
                    refine r_iald (k := x68.toNatClampNeg) (f := drawn_55) C hK w.1 13 rfl h69 rfl (dk_at dkX6_drift 146 rfl) ?_
                    refine lv_topi (fun x70 ex70 => ?_)
                    have hf := nm_at ex70 hf
                    obtain ⟨now_71, hq72, hf⟩ := bd1_at hf
                    refine r_rwv (As := [.int v58, .int 3, .int x70]) (rest := []) (wr := []) (ws' := wM g a_m st now_71 isKept hearers draft dHearers dWalls toldWinds tape taped pos frm sort value fault wrongAt landed_33 landedIn_34 stepped_35 isThere isAt isNext landSum heardSum allWays ways drawn_55 lanes sizes cells torn before) C (kX6_becomesOf l g _ a_m st now_65 isKept hearers draft dHearers dWalls toldWinds tape taped pos frm sort value fault wrongAt landed_33 landedIn_34 stepped_35 isThere isAt isNext landSum heardSum allWays ways drawn_55 lanes sizes cells torn before v58 3 x70 now_71 hq72) (cwV0 C (inr30 _ (List.mem_of_getElem? (i := 0) rfl)) mwX6_becomesOf hdX6_becomesOf ⟨Nat.le_of_ble_eq_true rfl, Nat.le_of_ble_eq_true rfl⟩) hK w hA [0, 1, 2, 3, 4, 5, 6, 7, 8, 9, 10, 11, 12, 13, 14, 15, 16, 17] [] [0, 1, 2, 3, 4, 5, 6, 7, 8, 9, 10, 11, 12, 13, 14, 15, 16, 17] (by decide) rfl rfl (by decide) (by decide) rfl (by decide) rfl rfl rfl hl.1 rfl (Nat.le_of_ble_eq_true rfl) ⟨Nat.zero_le _, Nat.zero_le _⟩ (dk_at dkX6_drift 147 rfl) (fun H locs w => ?_)
                    obtain ⟨x73, ex73⟩ : ∃ z : Int32, z = v58 + 1 := ⟨_, rfl⟩
                    have hf := nm_at ex73 hf
                    refine lv_iinc (v := x73) (lv' := [(9, .int x73), (4, .int x40), (6, .int v29), (5, .int v30), (0, .ref (a_m 0)), (2, .int p2), (3, .int p3)]) C.1 C.2.1 (dk_at dkX6_drift 148 rfl) hl (k := 0) rfl (by rw [ex73]; rfl) (by decide) rfl (fun ls hl => ?_)
                    refine lv_goto (tgt := 197) C.1 C.2.1 (dk_at dkX6_drift 149 rfl) (by decide) ?_
                    exact ih x73 now_71 _ _ _ w (lv_sub hl [0, 1, 2, 3, 4, 5, 6] rfl) hf
              refine L60 _ ?_ 4096 0 now_56 _ _ _ w (lv_sub hl [0, 3, 4, 5, 6, 7, 8] rfl) hf
              clear hf
              intro v58 now_59 H locs ls w hl hf
              refine lv_aload_n C.1 C.2.1 (dk_at dkX6_drift 150 rfl) rfl (lv_at hl 3 rfl) ?_
              obtain ⟨now_74, landed_75, landedIn_76, stepped_77, hq78, hf⟩ := bd4_at hf
              refine r_rwv (As := []) (rest := []) (wr := []) (ws' := wM g a_m st now_74 isKept hearers draft dHearers dWalls toldWinds tape taped pos frm sort value fault wrongAt landed_75 landedIn_76 stepped_77 isThere isAt isNext landSum heardSum allWays ways drawn_55 lanes sizes cells torn before) C (kX6_dayGoes l g _ a_m st now_59 isKept hearers draft dHearers dWalls toldWinds tape taped pos frm sort value fault wrongAt landed_33 landedIn_34 stepped_35 isThere isAt isNext landSum heardSum allWays ways drawn_55 lanes sizes cells torn before now_74 landed_75 landedIn_76 stepped_77 hq78) (cwV0 C (inr25 _ (List.mem_of_getElem? (i := 9) rfl)) mwX6_dayGoes hdX6_dayGoes ⟨Nat.le_of_ble_eq_true rfl, Nat.le_of_ble_eq_true rfl⟩) hK w hA [0, 1, 2, 3, 4, 5, 6, 7, 8, 9, 10, 11, 12, 13, 14, 15, 16, 17] [] [0, 1, 2, 3, 4, 5, 6, 7, 8, 9, 10, 11, 12, 13, 14, 15, 16, 17] (by decide) rfl rfl (by decide) (by decide) rfl (by decide) rfl rfl rfl hl.1 rfl (Nat.le_of_ble_eq_true rfl) ⟨Nat.zero_le _, Nat.zero_le _⟩ (dk_at dkX6_drift 151 rfl) (fun H locs w => ?_)
              refine lv_iload C.1 C.2.1 (dk_at dkX6_drift 152 rfl) (lv_at hl 2 rfl) ?_
              refine lv_aload_n C.1 C.2.1 (dk_at dkX6_drift 153 rfl) rfl (lv_at hl 3 rfl) ?_
              obtain ⟨r79, hq80, hf⟩ := bd1_at hf
              refine r_roV (As := []) (rest := [.int v30]) C (kX6_heard l g a_m st now_74 isKept hearers draft dHearers dWalls toldWinds tape taped pos frm sort value fault wrongAt landed_75 landedIn_76 stepped_77 isThere isAt isNext landSum heardSum allWays ways drawn_55 lanes sizes cells torn before r79 hq80) (cwV0 C (inr28 _ (List.mem_of_getElem? (i := 2) rfl)) mwX6_heard hdX6_heard ⟨Nat.le_of_ble_eq_true rfl, Nat.le_of_ble_eq_true rfl⟩) hK w.1 rfl rfl rfl hl.1 rfl (Nat.le_of_ble_eq_true rfl) ⟨Nat.zero_le _, Nat.zero_le _⟩ (dk_at dkX6_drift 154 rfl) ?_
              refine lv_iadd C.1 C.2.1 (dk_at dkX6_drift 155 rfl) ?_
              refine lv_topi (fun x81 ex81 => ?_)
              have hf := nm_at ex81 hf
              refine lv_istore (lv' := [(5, .int x81), (4, .int x40), (6, .int v29), (0, .ref (a_m 0)), (2, .int p2), (3, .int p3)]) C.1 C.2.1 (dk_at dkX6_drift 156 rfl) hl (by decide) rfl (fun ls hl => ?_)
              obtain ⟨x82, ex82⟩ : ∃ z : Int32, z = v29 + 1 := ⟨_, rfl⟩
              have hf := nm_at ex82 hf
              refine lv_iinc (v := x82) (lv' := [(6, .int x82), (5, .int x81), (4, .int x40), (0, .ref (a_m 0)), (2, .int p2), (3, .int p3)]) C.1 C.2.1 (dk_at dkX6_drift 157 rfl) hl (k := 2) rfl (by rw [ex82]; rfl) (by decide) rfl (fun ls hl => ?_)
              refine lv_goto (tgt := 112) C.1 C.2.1 (dk_at dkX6_drift 158 rfl) (by decide) ?_
              exact ih x82 x81 x40 now_74 landed_75 landedIn_76 stepped_77 drawn_55 _ _ _ w (lv_sub hl [0, 1, 2, 3, 4, 5] rfl) hf
        refine L37 _ ?_ 4096 0 0 p1 now landed landedIn stepped drawn_10 _ _ _ w (lv_sub hl [0, 1, 2, 3, 4, 5] rfl) hf
        clear hf
        intro v29 v30 v31 now_32 landed_33 landedIn_34 stepped_35 drawn_36 H locs ls w hl hf
        refine lv_iload_n C.1 C.2.1 (dk_at dkX6_drift 159 rfl) rfl (lv_at hl 2 rfl) ?_
        refine lv_if_ne (tgt := 277) C.1 C.2.1 (dk_at dkX6_drift 160 rfl) (by decide) (fun c83 => ?_) (fun c83 => ?_)
        · have hf := (if_neg c83).symm.trans hf
          refine lv_aload_n C.1 C.2.1 (dk_at dkX6_drift 163 rfl) rfl (lv_at hl 1 rfl) ?_
          refine r_get (v := .ref (a_m 6)) C hK w.1 (fun w h => List.mem_cons_of_mem _ (inlX6 w h)) 0 rfl rfl 16 (by decide) (List.mem_cons_of_mem _ (inr4 _ (List.mem_of_getElem? (i := 9) rfl))) rfl (dk_at dkX6_drift 164 rfl) ?_
          refine lv_iconst (v := 0) C.1 C.2.1 (dk_at dkX6_drift 165 rfl) (by decide) ?_
          refine r_iald (k := 0) (f := landed_33) C hK w.1 6 rfl (in_c (by decide)) (by decide) (dk_at dkX6_drift 166 rfl) ?_
          refine lv_topi (fun x84 ex84 => ?_)
          have hf := nm_at ex84 hf
          cases hf
          exact fin _ _ _ _ _ (dk_at dkX6_drift 167 rfl) rfl w
        · have hf := (if_pos c83).symm.trans hf
          refine lv_iload C.1 C.2.1 (dk_at dkX6_drift 161 rfl) (lv_at hl 0 rfl) ?_
          refine lv_goto (tgt := 283) C.1 C.2.1 (dk_at dkX6_drift 162 rfl) (by decide) ?_
          cases hf
          exact fin _ _ _ _ _ (dk_at dkX6_drift 167 rfl) rfl w
      · have hf := (if_pos c8).symm.trans hf
        refine lv_bipush (v := (-2)) C.1 C.2.1 (dk_at dkX6_drift 16 rfl) (by decide) ?_
        cases hf
        exact fin _ _ _ _ _ (dk_at dkX6_drift 17 rfl) rfl w
    · have hf := (if_pos c7).symm.trans hf
      refine lv_iconst (v := (-1)) C.1 C.2.1 (dk_at dkX6_drift 9 rfl) (by decide) ?_
      cases hf
      exact fin _ _ _ _ _ (dk_at dkX6_drift 10 rfl) rfl w
-- X6.copies
abbrev tbX6_copies : List (Nat × Instr × Nat) := [(0, .iconst 0, 1), (1, .istore_n 3, 1), (2, .iload_n 3, 1), (3, .bipush 61, 2), (5, .if_icmp .ge 25, 3), (8, .aload_n 0, 1), (9, .getfield 7, 3), (12, .iload_n 1, 1), (13, .iload_n 3, 1), (14, .iadd, 1), (15, .aload_n 0, 1), (16, .getfield 7, 3), (19, .iload_n 2, 1), (20, .iload_n 3, 1), (21, .iadd, 1), (22, .iaload, 1), (23, .iastore, 1), (24, .iinc 3 1, 3), (27, .goto (-25), 3), (30, .return_, 1)]
theorem dkX6_copies : dk cX6_copies tbX6_copies := dk_of (by decide +kernel)
abbrev cdX6_copies : Cond := Cond.code yX6_copies cX6_copies 4 none
abbrev rmX6_copies : Room := { frames := 0, cells := 0, slots := 0, locals := 0 }
theorem mwX6_copies : Cond.instanceMethod yX6_copies ∈ wsL_law ∧ Cond.selects RX6 yX6_copies yX6_copies ∈ wsL_law ∧ Cond.initialized RX6 ∈ wsL_law ∧ cdX6_copies ∈ wsL_law := ⟨inr38 _ (List.mem_of_getElem? (i := 23) rfl), inr39 _ (List.mem_of_getElem? (i := 0) rfl), inr1 _ (List.mem_of_getElem? (i := 5) rfl), inr39 _ (List.mem_of_getElem? (i := 1) rfl)⟩
theorem hdX6_copies : yX6_copies.cls = RX6 ∧ yX6_copies.cls ≠ "java/lang/invoke/MethodHandle" ∧ yX6_copies.cls ≠ "java/lang/invoke/VarHandle" ∧ (parseMethodDescriptor yX6_copies.desc).map (fun d => d.parameters.length) = some 2 := by decide +kernel
set_option maxHeartbeats 4000000 in
set_option maxRecDepth 100000 in
theorem kX6_copies (l : Launch) (g : Gx) (sz : Nat) (a_m : Nat → Nat) (st : AI) (now : AI) (isKept : AI) (hearers : Int32) (draft : AI) (dHearers : Int32) (dWalls : Int32) (toldWinds : Int32) (tape : AI) (taped : Int32) (pos : Int32) (frm : Int32) (sort : Int32) (value : Int32) (fault : Int32) (wrongAt : Int32) (landed : AI) (landedIn : AI) (stepped : AI) (isThere : AI) (isAt : AI) (isNext : AI) (landSum : Int64) (heardSum : Int64) (allWays : Int64) (ways : AI) (drawn : AI) (lanes : AI) (sizes : AI) (cells : AI) (torn : Int32) (before : AI) (p1 : Int32) (p2 : Int32) (st_o : AI) (hf : fX6_copies p1 p2 st = some st_o) : Met l yX6_copies (cdX6_copies :: wsL_law) rmX6_copies (va_Pc [.ref (a_m 0), .int p1, .int p2] (RWp g sz (wM g a_m st now isKept hearers draft dHearers dWalls toldWinds tape taped pos frm sort value fault wrongAt landed landedIn stepped isThere isAt isNext landSum heardSum allWays ways drawn lanes sizes cells torn before))) (va_Qv (fun _ : Unit => True) (fun _ => RWq g (va_A (wM g a_m st now isKept hearers draft dHearers dWalls toldWinds tape taped pos frm sort value fault wrongAt landed landedIn stepped isThere isAt isNext landSum heardSum allWays ways drawn lanes sizes cells torn before) sz) (wM g a_m st_o now isKept hearers draft dHearers dWalls toldWinds tape taped pos frm sort value fault wrongAt landed landedIn stepped isThere isAt isNext landSum heardSum allWays ways drawn lanes sizes cells torn before)) (va_A (wM g a_m st now isKept hearers draft dHearers dWalls toldWinds tape taped pos frm sort value fault wrongAt landed landedIn stepped isThere isAt isNext landSum heardSum allWays ways drawn lanes sizes cells torn before) sz)) 0 0 (va_A (wM g a_m st now isKept hearers draft dHearers dWalls toldWinds tape taped pos frm sort value fault wrongAt landed landedIn stepped isThere isAt isNext landSum heardSum allWays ways drawn lanes sizes cells torn before) sz) := by
  refine Met_rwv (cc := cX6_copies) (maxL := 4) (by decide) rfl (Nat.le_of_ble_eq_true rfl) ?_
  intro P E Z Mi AR BE ME CO A Q C hK hA fin w ls hl
  have hl : lv_has ls 4 [(0, .ref (a_m 0)), (1, .int p1), (2, .int p2)] := hl
  unfold fX6_copies at hf
  refine lv_iconst (v := 0) C.1 C.2.1 (dk_at dkX6_copies 0 rfl) (by decide) ?_
  refine lv_istore_n (lv' := [(3, .int 0), (0, .ref (a_m 0)), (1, .int p1), (2, .int p2)]) C.1 C.2.1 (dk_at dkX6_copies 1 rfl) rfl hl (by decide) rfl (fun ls hl => ?_)
  have L3 : ∀ (K : Int32 → AI → Option (AI)), (∀ (v1 : Int32) (st_2 : AI) (H : Heap) (locs : List Loc) (ls : Array Slot), Wd g A Z.heap (wM g a_m st_2 now isKept hearers draft dHearers dWalls toldWinds tape taped pos frm sort value fault wrongAt landed landedIn stepped isThere isAt isNext landSum heardSum allWays ways drawn lanes sizes cells torn before) H locs → lv_has ls 4 [] → K v1 st_2 = some st_o → W P l E rmX6_copies Z Mi AR BE ME CO H locs 0 0 Q (F0 Mi 30 ls [])) → ∀ (n : Nat), ∀ (v1 : Int32) (st_2 : AI) (H : Heap) (locs : List Loc) (ls : Array Slot), Wd g A Z.heap (wM g a_m st_2 now isKept hearers draft dHearers dWalls toldWinds tape taped pos frm sort value fault wrongAt landed landedIn stepped isThere isAt isNext landSum heardSum allWays ways drawn lanes sizes cells torn before) H locs → lv_has ls 4 [(3, .int v1), (0, .ref (a_m 0)), (1, .int p1), (2, .int p2)] → fX6_copies_L2 p1 p2 K n v1 st_2 = some st_o → W P l E rmX6_copies Z Mi AR BE ME CO H locs 0 0 Q (F0 Mi 2 ls []) := by
    intro K hKe n
    induction n with
    | zero => intro v1 st_2 H locs ls w hl hf; cases hf
    | succ n ih =>
      intro v1 st_2 H locs ls w hl hf
      rw [fX6_copies_L2] at hf
      refine lv_iload_n C.1 C.2.1 (dk_at dkX6_copies 2 rfl) rfl (lv_at hl 0 rfl) ?_
      refine lv_bipush (v := 61) C.1 C.2.1 (dk_at dkX6_copies 3 rfl) (by decide) ?_
      refine lv_icmp_ge (tgt := 30) C.1 C.2.1 (dk_at dkX6_copies 4 rfl) (by decide) (fun c4 => ?_) (fun c4 => ?_)
      · have hf := (if_pos c4).symm.trans hf
        exact hKe v1 st_2 _ _ _ w (lv_sub hl [] rfl) hf
      · have hf := (if_neg c4).symm.trans hf
        refine lv_aload_n C.1 C.2.1 (dk_at dkX6_copies 5 rfl) rfl (lv_at hl 1 rfl) ?_
        refine r_get (v := .ref (a_m 1)) C hK w.1 (fun w h => List.mem_cons_of_mem _ (inlX6 w h)) 0 rfl rfl 0 (by decide) (List.mem_cons_of_mem _ (inr4 _ (List.mem_of_getElem? (i := 4) rfl))) rfl (dk_at dkX6_copies 6 rfl) ?_
        refine lv_iload_n C.1 C.2.1 (dk_at dkX6_copies 7 rfl) rfl (lv_at hl 2 rfl) ?_
        refine lv_iload_n C.1 C.2.1 (dk_at dkX6_copies 8 rfl) rfl (lv_at hl 0 rfl) ?_
        refine lv_iadd C.1 C.2.1 (dk_at dkX6_copies 9 rfl) ?_
        refine lv_topi (fun x5 ex5 => ?_)
        have hf := nm_at ex5 hf
        refine lv_aload_n C.1 C.2.1 (dk_at dkX6_copies 10 rfl) rfl (lv_at hl 1 rfl) ?_
        refine r_get (v := .ref (a_m 1)) C hK w.1 (fun w h => List.mem_cons_of_mem _ (inlX6 w h)) 0 rfl rfl 0 (by decide) (List.mem_cons_of_mem _ (inr4 _ (List.mem_of_getElem? (i := 4) rfl))) rfl (dk_at dkX6_copies 11 rfl) ?_
        refine lv_iload_n C.1 C.2.1 (dk_at dkX6_copies 12 rfl) rfl (lv_at hl 3 rfl) ?_
        refine lv_iload_n C.1 C.2.1 (dk_at dkX6_copies 13 rfl) rfl (lv_at hl 0 rfl) ?_
        refine lv_iadd C.1 C.2.1 (dk_at dkX6_copies 14 rfl) ?_
        refine lv_topi (fun x6 ex6 => ?_)
        have hf := nm_at ex6 hf
        obtain ⟨h7, hf⟩ := gd_at hf
        refine r_iald (k := x6.toNatClampNeg) (f := st_2) C hK w.1 1 rfl h7 rfl (dk_at dkX6_copies 15 rfl) ?_
        refine lv_topi (fun x8 ex8 => ?_)
        have hf := nm_at ex8 hf
        obtain ⟨h9, hf⟩ := gd_at hf
        refine r_iast (k := x5.toNatClampNeg) (f := st_2) C hK w 1 rfl h9 rfl (dk_at dkX6_copies 16 rfl) (fun H locs w => ?_)
        obtain ⟨st_10, est_10⟩ : ∃ z : AI, z = upd st_2 x5.toNatClampNeg x8 := ⟨_, rfl⟩
        have hf := nm_at est_10 hf
        have w : Wd g A Z.heap (wM g a_m st_10 now isKept hearers draft dHearers dWalls toldWinds tape taped pos frm sort value fault wrongAt landed landedIn stepped isThere isAt isNext landSum heardSum allWays ways drawn lanes sizes cells torn before) H locs := by rw [est_10]; exact w
        obtain ⟨x11, ex11⟩ : ∃ z : Int32, z = v1 + 1 := ⟨_, rfl⟩
        have hf := nm_at ex11 hf
        refine lv_iinc (v := x11) (lv' := [(3, .int x11), (0, .ref (a_m 0)), (1, .int p1), (2, .int p2)]) C.1 C.2.1 (dk_at dkX6_copies 17 rfl) hl (k := 0) rfl (by rw [ex11]; rfl) (by decide) rfl (fun ls hl => ?_)
        refine lv_goto (tgt := 2) C.1 C.2.1 (dk_at dkX6_copies 18 rfl) (by decide) ?_
        exact ih x11 st_10 _ _ _ w (lv_sub hl [0, 1, 2, 3] rfl) hf
  refine L3 _ ?_ 4096 0 st _ _ _ w (lv_sub hl [0, 1, 2, 3] rfl) hf
  clear hf
  intro v1 st_2 H locs ls w hl hf
  cases hf
  exact fin _ _ _ _ (dk_at dkX6_copies 19 rfl) w
-- X6.keep
abbrev tbX6_keep : List (Nat × Instr × Nat) := [(0, .iload_n 1, 1), (1, .i2l, 1), (2, .lconst 0, 1), (3, .lconst 1, 1), (4, .invokestatic 83, 3), (7, .ifCond .ne 5, 3), (10, .iconst (-1), 1), (11, .ireturn, 1), (12, .aload_n 0, 1), (13, .getfield 16, 3), (16, .iload_n 1, 1), (17, .baload, 1), (18, .invokestatic 207, 3), (21, .istore_n 2, 1), (22, .aload_n 0, 1), (23, .getfield 16, 3), (26, .iload_n 1, 1), (27, .iconst 1, 1), (28, .bastore, 1), (29, .aload_n 0, 1), (30, .bipush 61, 2), (32, .iload_n 1, 1), (33, .iconst 1, 1), (34, .iadd, 1), (35, .imul, 1), (36, .iconst 0, 1), (37, .invokevirtual 302, 3), (40, .iload_n 2, 1), (41, .ireturn, 1)]
theorem dkX6_keep : dk cX6_keep tbX6_keep := dk_of (by decide +kernel)
abbrev cdX6_keep : Cond := Cond.code yX6_keep cX6_keep 3 (some .int)
abbrev rmX6_keep : Room := { frames := 1, cells := 0, slots := 0, locals := 25 }
theorem mwX6_keep : Cond.instanceMethod yX6_keep ∈ wsL_law ∧ Cond.selects RX6 yX6_keep yX6_keep ∈ wsL_law ∧ Cond.initialized RX6 ∈ wsL_law ∧ cdX6_keep ∈ wsL_law := ⟨inr38 _ (List.mem_of_getElem? (i := 19) rfl), inr38 _ (List.mem_of_getElem? (i := 20) rfl), inr1 _ (List.mem_of_getElem? (i := 5) rfl), inr38 _ (List.mem_of_getElem? (i := 21) rfl)⟩
theorem hdX6_keep : yX6_keep.cls = RX6 ∧ yX6_keep.cls ≠ "java/lang/invoke/MethodHandle" ∧ yX6_keep.cls ≠ "java/lang/invoke/VarHandle" ∧ (parseMethodDescriptor yX6_keep.desc).map (fun d => d.parameters.length) = some 1 := by decide +kernel
set_option maxHeartbeats 4000000 in
set_option maxRecDepth 100000 in
theorem kX6_keep (l : Launch) (g : Gx) (sz : Nat) (a_m : Nat → Nat) (st : AI) (now : AI) (isKept : AI) (hearers : Int32) (draft : AI) (dHearers : Int32) (dWalls : Int32) (toldWinds : Int32) (tape : AI) (taped : Int32) (pos : Int32) (frm : Int32) (sort : Int32) (value : Int32) (fault : Int32) (wrongAt : Int32) (landed : AI) (landedIn : AI) (stepped : AI) (isThere : AI) (isAt : AI) (isNext : AI) (landSum : Int64) (heardSum : Int64) (allWays : Int64) (ways : AI) (drawn : AI) (lanes : AI) (sizes : AI) (cells : AI) (torn : Int32) (before : AI) (p1 : Int32) (res : Int32) (st_o : AI) (isKept_o : AI) (hf : fX6_keep p1 st isKept = some (res, st_o, isKept_o)) : Met l yX6_keep (cdX6_keep :: wsL_law) rmX6_keep (va_Pc [.ref (a_m 0), .int p1] (RWp g sz (wM g a_m st now isKept hearers draft dHearers dWalls toldWinds tape taped pos frm sort value fault wrongAt landed landedIn stepped isThere isAt isNext landSum heardSum allWays ways drawn lanes sizes cells torn before))) (va_Qi (fun x (_ : Unit) => x = res) (fun _ => RWq g (va_A (wM g a_m st now isKept hearers draft dHearers dWalls toldWinds tape taped pos frm sort value fault wrongAt landed landedIn stepped isThere isAt isNext landSum heardSum allWays ways drawn lanes sizes cells torn before) sz) (wM g a_m st_o now isKept_o hearers draft dHearers dWalls toldWinds tape taped pos frm sort value fault wrongAt landed landedIn stepped isThere isAt isNext landSum heardSum allWays ways drawn lanes sizes cells torn before)) (va_A (wM g a_m st now isKept hearers draft dHearers dWalls toldWinds tape taped pos frm sort value fault wrongAt landed landedIn stepped isThere isAt isNext landSum heardSum allWays ways drawn lanes sizes cells torn before) sz)) 0 0 (va_A (wM g a_m st now isKept hearers draft dHearers dWalls toldWinds tape taped pos frm sort value fault wrongAt landed landedIn stepped isThere isAt isNext landSum heardSum allWays ways drawn lanes sizes cells torn before) sz) := by
  refine Met_rwi (cc := cX6_keep) (maxL := 3) (by decide) rfl (Nat.le_of_ble_eq_true rfl) ?_
  intro P E Z Mi AR BE ME CO A Q C hK hA fin w ls hl
  have hl : lv_has ls 3 [(0, .ref (a_m 0)), (1, .int p1)] := hl
  unfold fX6_keep at hf
  refine lv_iload_n C.1 C.2.1 (dk_at dkX6_keep 0 rfl) rfl (lv_at hl 1 rfl) ?_
  refine lv_i2l C.1 C.2.1 (dk_at dkX6_keep 1 rfl) rfl ?_
  refine lv_topl (fun x1 ex1 => ?_)
  have hf := nm_at ex1 hf
  refine lv_lconst (v := 0) C.1 C.2.1 (dk_at dkX6_keep 2 rfl) (by decide) ?_
  refine lv_lconst (v := 1) C.1 C.2.1 (dk_at dkX6_keep 3 rfl) (by decide) ?_
  obtain ⟨r2, hq3, hf⟩ := bd1_at hf
  refine r_st (As := [.long x1, .long 0, .long 1]) (rest := []) C (kX6_in l x1 0 1 r2 hq3) (cwS0 C (inr5 _ (List.mem_of_getElem? (i := 21) rfl)) mwX6_in hdX6_in ⟨Nat.le_of_ble_eq_true rfl, Nat.le_of_ble_eq_true rfl⟩) rfl hl.1 rfl (Nat.le_of_ble_eq_true rfl) ⟨Nat.zero_le _, Nat.zero_le _⟩ (dk_at dkX6_keep 4 rfl) ?_
  refine lv_if_ne (tgt := 12) C.1 C.2.1 (dk_at dkX6_keep 5 rfl) (by decide) (fun c4 => ?_) (fun c4 => ?_)
  · have hf := (if_neg c4).symm.trans hf
    refine lv_aload_n C.1 C.2.1 (dk_at dkX6_keep 8 rfl) rfl (lv_at hl 0 rfl) ?_
    refine r_get (v := .ref (a_m 3)) C hK w.1 (fun w h => List.mem_cons_of_mem _ (inlX6 w h)) 0 rfl rfl 2 (by decide) (List.mem_cons_of_mem _ (inr4 _ (List.mem_of_getElem? (i := 6) rfl))) rfl (dk_at dkX6_keep 9 rfl) ?_
    refine lv_iload_n C.1 C.2.1 (dk_at dkX6_keep 10 rfl) rfl (lv_at hl 1 rfl) ?_
    obtain ⟨h5, hf⟩ := gd_at hf
    refine r_zald (k := p1.toNatClampNeg) (f := isKept) C hK w.1 3 rfl h5 rfl (dk_at dkX6_keep 11 rfl) ?_
    refine lv_topi (fun x6 ex6 => ?_)
    have hf := nm_at ex6 hf
    obtain ⟨r7, hq8, hf⟩ := bd1_at hf
    refine r_st (As := [.int x6]) (rest := []) C (kX6_flag l x6 r7 hq8) (cwS0 C (inr17 _ (List.mem_of_getElem? (i := 7) rfl)) mwX6_flag hdX6_flag ⟨Nat.le_of_ble_eq_true rfl, Nat.le_of_ble_eq_true rfl⟩) rfl hl.1 rfl (Nat.le_of_ble_eq_true rfl) ⟨Nat.zero_le _, Nat.zero_le _⟩ (dk_at dkX6_keep 12 rfl) ?_
    refine lv_istore_n (lv' := [(2, .int r7), (0, .ref (a_m 0)), (1, .int p1)]) C.1 C.2.1 (dk_at dkX6_keep 13 rfl) rfl hl (by decide) rfl (fun ls hl => ?_)
    refine lv_aload_n C.1 C.2.1 (dk_at dkX6_keep 14 rfl) rfl (lv_at hl 1 rfl) ?_
    refine r_get (v := .ref (a_m 3)) C hK w.1 (fun w h => List.mem_cons_of_mem _ (inlX6 w h)) 0 rfl rfl 2 (by decide) (List.mem_cons_of_mem _ (inr4 _ (List.mem_of_getElem? (i := 6) rfl))) rfl (dk_at dkX6_keep 15 rfl) ?_
    refine lv_iload_n C.1 C.2.1 (dk_at dkX6_keep 16 rfl) rfl (lv_at hl 2 rfl) ?_
    refine lv_iconst (v := 1) C.1 C.2.1 (dk_at dkX6_keep 17 rfl) (by decide) ?_
    obtain ⟨h9, hf⟩ := gd_at hf
    refine r_zast (k := p1.toNatClampNeg) (f := isKept) C hK w 3 rfl h9 rfl (dk_at dkX6_keep 18 rfl) (fun H locs w => ?_)
    obtain ⟨isKept_10, eisKept_10⟩ : ∃ z : AI, z = upd isKept p1.toNatClampNeg (vp_nar .boolean 1) := ⟨_, rfl⟩
    have hf := nm_at eisKept_10 hf
    have w : Wd g A Z.heap (wM g a_m st now isKept_10 hearers draft dHearers dWalls toldWinds tape taped pos frm sort value fault wrongAt landed landedIn stepped isThere isAt isNext landSum heardSum allWays ways drawn lanes sizes cells torn before) H locs := by rw [eisKept_10]; exact w
    refine lv_aload_n C.1 C.2.1 (dk_at dkX6_keep 19 rfl) rfl (lv_at hl 1 rfl) ?_
    refine lv_bipush (v := 61) C.1 C.2.1 (dk_at dkX6_keep 20 rfl) (by decide) ?_
    refine lv_iload_n C.1 C.2.1 (dk_at dkX6_keep 21 rfl) rfl (lv_at hl 2 rfl) ?_
    refine lv_iconst (v := 1) C.1 C.2.1 (dk_at dkX6_keep 22 rfl) (by decide) ?_
    refine lv_iadd C.1 C.2.1 (dk_at dkX6_keep 23 rfl) ?_
    refine lv_imul C.1 C.2.1 (dk_at dkX6_keep 24 rfl) ?_
    refine lv_topi (fun x11 ex11 => ?_)
    have hf := nm_at ex11 hf
    refine lv_iconst (v := 0) C.1 C.2.1 (dk_at dkX6_keep 25 rfl) (by decide) ?_
    obtain ⟨st_12, hq13, hf⟩ := bd1_at hf
    refine r_rwv (As := [.int x11, .int 0]) (rest := []) (wr := []) (ws' := wM g a_m st_12 now isKept_10 hearers draft dHearers dWalls toldWinds tape taped pos frm sort value fault wrongAt landed landedIn stepped isThere isAt isNext landSum heardSum allWays ways drawn lanes sizes cells torn before) C (kX6_copies l g _ a_m st now isKept_10 hearers draft dHearers dWalls toldWinds tape taped pos frm sort value fault wrongAt landed landedIn stepped isThere isAt isNext landSum heardSum allWays ways drawn lanes sizes cells torn before x11 0 st_12 hq13) (cwV0 C (inr38 _ (List.mem_of_getElem? (i := 22) rfl)) mwX6_copies hdX6_copies ⟨Nat.le_of_ble_eq_true rfl, Nat.le_of_ble_eq_true rfl⟩) hK w hA [0, 1, 2, 3, 4, 5, 6, 7, 8, 9, 10, 11, 12, 13, 14, 15, 16, 17] [] [0, 1, 2, 3, 4, 5, 6, 7, 8, 9, 10, 11, 12, 13, 14, 15, 16, 17] (by decide) rfl rfl (by decide) (by decide) rfl (by decide) rfl rfl rfl hl.1 rfl (Nat.le_of_ble_eq_true rfl) ⟨Nat.zero_le _, Nat.zero_le _⟩ (dk_at dkX6_keep 26 rfl) (fun H locs w => ?_)
    refine lv_iload_n C.1 C.2.1 (dk_at dkX6_keep 27 rfl) rfl (lv_at hl 0 rfl) ?_
    cases hf
    exact fin _ _ _ _ _ (dk_at dkX6_keep 28 rfl) rfl w
  · have hf := (if_pos c4).symm.trans hf
    refine lv_iconst (v := (-1)) C.1 C.2.1 (dk_at dkX6_keep 6 rfl) (by decide) ?_
    cases hf
    exact fin _ _ _ _ _ (dk_at dkX6_keep 7 rfl) rfl w
-- X6.back
abbrev tbX6_back : List (Nat × Instr × Nat) := [(0, .iload_n 1, 1), (1, .i2l, 1), (2, .lconst 0, 1), (3, .lconst 1, 1), (4, .invokestatic 83, 3), (7, .ifCond .ne 5, 3), (10, .iconst (-1), 1), (11, .ireturn, 1), (12, .aload_n 0, 1), (13, .getfield 16, 3), (16, .iload_n 1, 1), (17, .baload, 1), (18, .ifCond .ne 6, 3), (21, .bipush (-2), 2), (23, .ireturn, 1), (24, .aload_n 0, 1), (25, .iconst 0, 1), (26, .bipush 61, 2), (28, .iload_n 1, 1), (29, .iconst 1, 1), (30, .iadd, 1), (31, .imul, 1), (32, .invokevirtual 302, 3), (35, .aload_n 0, 1), (36, .getfield 7, 3), (39, .bipush 43, 2), (41, .iaload, 1), (42, .ireturn, 1)]
theorem dkX6_back : dk cX6_back tbX6_back := dk_of (by decide +kernel)
abbrev cdX6_back : Cond := Cond.code yX6_back cX6_back 2 (some .int)
abbrev rmX6_back : Room := { frames := 1, cells := 0, slots := 0, locals := 25 }
theorem mwX6_back : Cond.instanceMethod yX6_back ∈ wsL_law ∧ Cond.selects RX6 yX6_back yX6_back ∈ wsL_law ∧ Cond.initialized RX6 ∈ wsL_law ∧ cdX6_back ∈ wsL_law := ⟨inr39 _ (List.mem_of_getElem? (i := 7) rfl), inr39 _ (List.mem_of_getElem? (i := 8) rfl), inr1 _ (List.mem_of_getElem? (i := 5) rfl), inr39 _ (List.mem_of_getElem? (i := 9) rfl)⟩
theorem hdX6_back : yX6_back.cls = RX6 ∧ yX6_back.cls ≠ "java/lang/invoke/MethodHandle" ∧ yX6_back.cls ≠ "java/lang/invoke/VarHandle" ∧ (parseMethodDescriptor yX6_back.desc).map (fun d => d.parameters.length) = some 1 := by decide +kernel
set_option maxHeartbeats 4000000 in
set_option maxRecDepth 100000 in
theorem kX6_back (l : Launch) (g : Gx) (sz : Nat) (a_m : Nat → Nat) (st : AI) (now : AI) (isKept : AI) (hearers : Int32) (draft : AI) (dHearers : Int32) (dWalls : Int32) (toldWinds : Int32) (tape : AI) (taped : Int32) (pos : Int32) (frm : Int32) (sort : Int32) (value : Int32) (fault : Int32) (wrongAt : Int32) (landed : AI) (landedIn : AI) (stepped : AI) (isThere : AI) (isAt : AI) (isNext : AI) (landSum : Int64) (heardSum : Int64) (allWays : Int64) (ways : AI) (drawn : AI) (lanes : AI) (sizes : AI) (cells : AI) (torn : Int32) (before : AI) (p1 : Int32) (res : Int32) (st_o : AI) (hf : fX6_back p1 st isKept = some (res, st_o)) : Met l yX6_back (cdX6_back :: wsL_law) rmX6_back (va_Pc [.ref (a_m 0), .int p1] (RWp g sz (wM g a_m st now isKept hearers draft dHearers dWalls toldWinds tape taped pos frm sort value fault wrongAt landed landedIn stepped isThere isAt isNext landSum heardSum allWays ways drawn lanes sizes cells torn before))) (va_Qi (fun x (_ : Unit) => x = res) (fun _ => RWq g (va_A (wM g a_m st now isKept hearers draft dHearers dWalls toldWinds tape taped pos frm sort value fault wrongAt landed landedIn stepped isThere isAt isNext landSum heardSum allWays ways drawn lanes sizes cells torn before) sz) (wM g a_m st_o now isKept hearers draft dHearers dWalls toldWinds tape taped pos frm sort value fault wrongAt landed landedIn stepped isThere isAt isNext landSum heardSum allWays ways drawn lanes sizes cells torn before)) (va_A (wM g a_m st now isKept hearers draft dHearers dWalls toldWinds tape taped pos frm sort value fault wrongAt landed landedIn stepped isThere isAt isNext landSum heardSum allWays ways drawn lanes sizes cells torn before) sz)) 0 0 (va_A (wM g a_m st now isKept hearers draft dHearers dWalls toldWinds tape taped pos frm sort value fault wrongAt landed landedIn stepped isThere isAt isNext landSum heardSum allWays ways drawn lanes sizes cells torn before) sz) := by
  refine Met_rwi (cc := cX6_back) (maxL := 2) (by decide) rfl (Nat.le_of_ble_eq_true rfl) ?_
  intro P E Z Mi AR BE ME CO A Q C hK hA fin w ls hl
  have hl : lv_has ls 2 [(0, .ref (a_m 0)), (1, .int p1)] := hl
  unfold fX6_back at hf
  refine lv_iload_n C.1 C.2.1 (dk_at dkX6_back 0 rfl) rfl (lv_at hl 1 rfl) ?_
  refine lv_i2l C.1 C.2.1 (dk_at dkX6_back 1 rfl) rfl ?_
  refine lv_topl (fun x1 ex1 => ?_)
  have hf := nm_at ex1 hf
  refine lv_lconst (v := 0) C.1 C.2.1 (dk_at dkX6_back 2 rfl) (by decide) ?_
  refine lv_lconst (v := 1) C.1 C.2.1 (dk_at dkX6_back 3 rfl) (by decide) ?_
  obtain ⟨r2, hq3, hf⟩ := bd1_at hf
  refine r_st (As := [.long x1, .long 0, .long 1]) (rest := []) C (kX6_in l x1 0 1 r2 hq3) (cwS0 C (inr5 _ (List.mem_of_getElem? (i := 21) rfl)) mwX6_in hdX6_in ⟨Nat.le_of_ble_eq_true rfl, Nat.le_of_ble_eq_true rfl⟩) rfl hl.1 rfl (Nat.le_of_ble_eq_true rfl) ⟨Nat.zero_le _, Nat.zero_le _⟩ (dk_at dkX6_back 4 rfl) ?_
  refine lv_if_ne (tgt := 12) C.1 C.2.1 (dk_at dkX6_back 5 rfl) (by decide) (fun c4 => ?_) (fun c4 => ?_)
  · have hf := (if_neg c4).symm.trans hf
    refine lv_aload_n C.1 C.2.1 (dk_at dkX6_back 8 rfl) rfl (lv_at hl 0 rfl) ?_
    refine r_get (v := .ref (a_m 3)) C hK w.1 (fun w h => List.mem_cons_of_mem _ (inlX6 w h)) 0 rfl rfl 2 (by decide) (List.mem_cons_of_mem _ (inr4 _ (List.mem_of_getElem? (i := 6) rfl))) rfl (dk_at dkX6_back 9 rfl) ?_
    refine lv_iload_n C.1 C.2.1 (dk_at dkX6_back 10 rfl) rfl (lv_at hl 1 rfl) ?_
    obtain ⟨h5, hf⟩ := gd_at hf
    refine r_zald (k := p1.toNatClampNeg) (f := isKept) C hK w.1 3 rfl h5 rfl (dk_at dkX6_back 11 rfl) ?_
    refine lv_if_ne (tgt := 24) C.1 C.2.1 (dk_at dkX6_back 12 rfl) (by decide) (fun c6 => ?_) (fun c6 => ?_)
    · have hf := (if_neg c6).symm.trans hf
      refine lv_aload_n C.1 C.2.1 (dk_at dkX6_back 15 rfl) rfl (lv_at hl 0 rfl) ?_
      refine lv_iconst (v := 0) C.1 C.2.1 (dk_at dkX6_back 16 rfl) (by decide) ?_
      refine lv_bipush (v := 61) C.1 C.2.1 (dk_at dkX6_back 17 rfl) (by decide) ?_
      refine lv_iload_n C.1 C.2.1 (dk_at dkX6_back 18 rfl) rfl (lv_at hl 1 rfl) ?_
      refine lv_iconst (v := 1) C.1 C.2.1 (dk_at dkX6_back 19 rfl) (by decide) ?_
      refine lv_iadd C.1 C.2.1 (dk_at dkX6_back 20 rfl) ?_
      refine lv_imul C.1 C.2.1 (dk_at dkX6_back 21 rfl) ?_
      refine lv_topi (fun x7 ex7 => ?_)
      have hf := nm_at ex7 hf
      obtain ⟨st_8, hq9, hf⟩ := bd1_at hf
      refine r_rwv (As := [.int 0, .int x7]) (rest := []) (wr := []) (ws' := wM g a_m st_8 now isKept hearers draft dHearers dWalls toldWinds tape taped pos frm sort value fault wrongAt landed landedIn stepped isThere isAt isNext landSum heardSum allWays ways drawn lanes sizes cells torn before) C (kX6_copies l g _ a_m st now isKept hearers draft dHearers dWalls toldWinds tape taped pos frm sort value fault wrongAt landed landedIn stepped isThere isAt isNext landSum heardSum allWays ways drawn lanes sizes cells torn before 0 x7 st_8 hq9) (cwV0 C (inr38 _ (List.mem_of_getElem? (i := 22) rfl)) mwX6_copies hdX6_copies ⟨Nat.le_of_ble_eq_true rfl, Nat.le_of_ble_eq_true rfl⟩) hK w hA [0, 1, 2, 3, 4, 5, 6, 7, 8, 9, 10, 11, 12, 13, 14, 15, 16, 17] [] [0, 1, 2, 3, 4, 5, 6, 7, 8, 9, 10, 11, 12, 13, 14, 15, 16, 17] (by decide) rfl rfl (by decide) (by decide) rfl (by decide) rfl rfl rfl hl.1 rfl (Nat.le_of_ble_eq_true rfl) ⟨Nat.zero_le _, Nat.zero_le _⟩ (dk_at dkX6_back 22 rfl) (fun H locs w => ?_)
      refine lv_aload_n C.1 C.2.1 (dk_at dkX6_back 23 rfl) rfl (lv_at hl 0 rfl) ?_
      refine r_get (v := .ref (a_m 1)) C hK w.1 (fun w h => List.mem_cons_of_mem _ (inlX6 w h)) 0 rfl rfl 0 (by decide) (List.mem_cons_of_mem _ (inr4 _ (List.mem_of_getElem? (i := 4) rfl))) rfl (dk_at dkX6_back 24 rfl) ?_
      refine lv_bipush (v := 43) C.1 C.2.1 (dk_at dkX6_back 25 rfl) (by decide) ?_
      refine r_iald (k := 43) (f := st_8) C hK w.1 1 rfl (in_c (by decide)) (by decide) (dk_at dkX6_back 26 rfl) ?_
      refine lv_topi (fun x10 ex10 => ?_)
      have hf := nm_at ex10 hf
      cases hf
      exact fin _ _ _ _ _ (dk_at dkX6_back 27 rfl) rfl w
    · have hf := (if_pos c6).symm.trans hf
      refine lv_bipush (v := (-2)) C.1 C.2.1 (dk_at dkX6_back 13 rfl) (by decide) ?_
      cases hf
      exact fin _ _ _ _ _ (dk_at dkX6_back 14 rfl) rfl w
  · have hf := (if_pos c4).symm.trans hf
    refine lv_iconst (v := (-1)) C.1 C.2.1 (dk_at dkX6_back 6 rfl) (by decide) ?_
    cases hf
    exact fin _ _ _ _ _ (dk_at dkX6_back 7 rfl) rfl w
-- X6.isSheet
abbrev tbX6_isSheet : List (Nat × Instr × Nat) := [(0, .iload_n 0, 1), (1, .i2l, 1), (2, .lconst 0, 1), (3, .ldc2_w 224, 3), (6, .invokestatic 83, 3), (9, .ifCond .eq 19, 3), (12, .iload_n 1, 1), (13, .i2l, 1), (14, .lconst 0, 1), (15, .ldc2_w 235, 3), (18, .invokestatic 83, 3), (21, .ifCond .eq 7, 3), (24, .iconst 1, 1), (25, .goto 4, 3), (28, .iconst 0, 1), (29, .ireturn, 1)]
theorem dkX6_isSheet : dk cX6_isSheet tbX6_isSheet := dk_of (by decide +kernel)
abbrev cdX6_isSheet : Cond := Cond.code yX6_isSheet cX6_isSheet 2 (some .boolean)
abbrev rmX6_isSheet : Room := { frames := 1, cells := 0, slots := 0, locals := 25 }
theorem mwX6_isSheet : Cond.static yX6_isSheet ∈ wsL_law ∧ Cond.initialized yX6_isSheet.cls ∈ wsL_law ∧ cdX6_isSheet ∈ wsL_law := ⟨inr40 _ (List.mem_of_getElem? (i := 2) rfl), inr1 _ (List.mem_of_getElem? (i := 5) rfl), inr40 _ (List.mem_of_getElem? (i := 3) rfl)⟩
theorem hdX6_isSheet : yX6_isSheet.cls ≠ "java/lang/invoke/MethodHandle" ∧ yX6_isSheet.cls ≠ "java/lang/invoke/VarHandle" ∧ (parseMethodDescriptor yX6_isSheet.desc).map (fun d => d.parameters.length) = some 2 := by decide +kernel
set_option maxHeartbeats 4000000 in
set_option maxRecDepth 100000 in
theorem kX6_isSheet (l : Launch) (p1 : Int32) (p2 : Int32) (res : Int32) (hf : fX6_isSheet p1 p2 = some res) : Met l yX6_isSheet (cdX6_isSheet :: wsL_law) rmX6_isSheet (va_Pc [.int p1, .int p2] (fun _ => True)) (vp_Si (fun x => x = res)) 0 0 (fun _ => False) := by
  refine Met_stz (cc := cX6_isSheet) (maxL := 2) (by decide) rfl (Nat.le_of_ble_eq_true rfl) ?_
  intro P E Z Mi AR BE ME CO Q C fin ls hl
  have hl : lv_has ls 2 [(0, .int p1), (1, .int p2)] := hl
  unfold fX6_isSheet at hf
  refine lv_iload_n C.1 C.2.1 (dk_at dkX6_isSheet 0 rfl) rfl (lv_at hl 0 rfl) ?_
  refine lv_i2l C.1 C.2.1 (dk_at dkX6_isSheet 1 rfl) rfl ?_
  refine lv_topl (fun x1 ex1 => ?_)
  have hf := nm_at ex1 hf
  refine lv_lconst (v := 0) C.1 C.2.1 (dk_at dkX6_isSheet 2 rfl) (by decide) ?_
  refine lv_ldc2 (v := 3) C.1 C.2.1 C.2.2.2.1 (C.2.2.2.2 _ (List.mem_cons_of_mem _ (inr21 _ (List.mem_of_getElem? (i := 4) rfl)))) (dk_at dkX6_isSheet 3 rfl) ?_
  obtain ⟨r2, hq3, hf⟩ := bd1_at hf
  refine r_st (As := [.long x1, .long 0, .long 3]) (rest := []) C (kX6_in l x1 0 3 r2 hq3) (cwS0 C (inr5 _ (List.mem_of_getElem? (i := 21) rfl)) mwX6_in hdX6_in ⟨Nat.le_of_ble_eq_true rfl, Nat.le_of_ble_eq_true rfl⟩) rfl hl.1 rfl (Nat.le_of_ble_eq_true rfl) ⟨Nat.zero_le _, Nat.zero_le _⟩ (dk_at dkX6_isSheet 4 rfl) ?_
  refine lv_if_eq (tgt := 28) C.1 C.2.1 (dk_at dkX6_isSheet 5 rfl) (by decide) (fun c4 => ?_) (fun c4 => ?_)
  · have hf := (if_pos c4).symm.trans hf
    refine lv_iconst (v := 0) C.1 C.2.1 (dk_at dkX6_isSheet 14 rfl) (by decide) ?_
    cases hf
    exact fin _ _ _ (dk_at dkX6_isSheet 15 rfl) rfl rfl
  · have hf := (if_neg c4).symm.trans hf
    refine lv_iload_n C.1 C.2.1 (dk_at dkX6_isSheet 6 rfl) rfl (lv_at hl 1 rfl) ?_
    refine lv_i2l C.1 C.2.1 (dk_at dkX6_isSheet 7 rfl) rfl ?_
    refine lv_topl (fun x5 ex5 => ?_)
    have hf := nm_at ex5 hf
    refine lv_lconst (v := 0) C.1 C.2.1 (dk_at dkX6_isSheet 8 rfl) (by decide) ?_
    refine lv_ldc2 (v := 2) C.1 C.2.1 C.2.2.2.1 (C.2.2.2.2 _ (List.mem_cons_of_mem _ (inr25 _ (List.mem_of_getElem? (i := 4) rfl)))) (dk_at dkX6_isSheet 9 rfl) ?_
    obtain ⟨r6, hq7, hf⟩ := bd1_at hf
    refine r_st (As := [.long x5, .long 0, .long 2]) (rest := []) C (kX6_in l x5 0 2 r6 hq7) (cwS0 C (inr5 _ (List.mem_of_getElem? (i := 21) rfl)) mwX6_in hdX6_in ⟨Nat.le_of_ble_eq_true rfl, Nat.le_of_ble_eq_true rfl⟩) rfl hl.1 rfl (Nat.le_of_ble_eq_true rfl) ⟨Nat.zero_le _, Nat.zero_le _⟩ (dk_at dkX6_isSheet 10 rfl) ?_
    refine lv_if_eq (tgt := 28) C.1 C.2.1 (dk_at dkX6_isSheet 11 rfl) (by decide) (fun c8 => ?_) (fun c8 => ?_)
    · have hf := (if_pos c8).symm.trans hf
      refine lv_iconst (v := 0) C.1 C.2.1 (dk_at dkX6_isSheet 14 rfl) (by decide) ?_
      cases hf
      exact fin _ _ _ (dk_at dkX6_isSheet 15 rfl) rfl rfl
    · have hf := (if_neg c8).symm.trans hf
      refine lv_iconst (v := 1) C.1 C.2.1 (dk_at dkX6_isSheet 12 rfl) (by decide) ?_
      refine lv_goto (tgt := 29) C.1 C.2.1 (dk_at dkX6_isSheet 13 rfl) (by decide) ?_
      cases hf
      exact fin _ _ _ (dk_at dkX6_isSheet 15 rfl) rfl rfl
-- X6.sheet
abbrev tbX6_sheet : List (Nat × Instr × Nat) := [(0, .iload_n 1, 1), (1, .iload_n 2, 1), (2, .invokestatic 306, 3), (5, .ifCond .eq 9, 3), (8, .iload_n 3, 1), (9, .bipush 40, 2), (11, .if_icmp .le 5, 3), (14, .iconst (-1), 1), (15, .ireturn, 1), (16, .iload_n 3, 1), (17, .ifCond .ge 6, 3), (20, .bipush (-14), 2), (22, .ireturn, 1), (23, .aload_n 0, 1), (24, .getfield 50, 3), (27, .iload_n 1, 1), (28, .iload_n 2, 1), (29, .iastore, 1), (30, .aload_n 0, 1), (31, .getfield 53, 3), (34, .iload_n 1, 1), (35, .iload_n 3, 1), (36, .iastore, 1), (37, .iconst 0, 1), (38, .istore 4, 2), (40, .iload 4, 2), (42, .bipush 40, 2), (44, .if_icmp .ge 22, 3), (47, .aload_n 0, 1), (48, .getfield 56, 3), (51, .bipush 40, 2), (53, .iload_n 1, 1), (54, .imul, 1), (55, .iload 4, 2), (57, .iadd, 1), (58, .iconst 0, 1), (59, .iastore, 1), (60, .iinc 4 1, 3), (63, .goto (-23), 3), (66, .iconst 1, 1), (67, .ireturn, 1)]
theorem dkX6_sheet : dk cX6_sheet tbX6_sheet := dk_of (by decide +kernel)
abbrev cdX6_sheet : Cond := Cond.code yX6_sheet cX6_sheet 5 (some .int)
abbrev rmX6_sheet : Room := { frames := 2, cells := 0, slots := 0, locals := 46 }
theorem mwX6_sheet : Cond.instanceMethod yX6_sheet ∈ wsL_law ∧ Cond.selects RX6 yX6_sheet yX6_sheet ∈ wsL_law ∧ Cond.initialized RX6 ∈ wsL_law ∧ cdX6_sheet ∈ wsL_law := ⟨inr39 _ (List.mem_of_getElem? (i := 22) rfl), inr39 _ (List.mem_of_getElem? (i := 23) rfl), inr1 _ (List.mem_of_getElem? (i := 5) rfl), inr40 _ (List.mem_of_getElem? (i := 0) rfl)⟩
theorem hdX6_sheet : yX6_sheet.cls = RX6 ∧ yX6_sheet.cls ≠ "java/lang/invoke/MethodHandle" ∧ yX6_sheet.cls ≠ "java/lang/invoke/VarHandle" ∧ (parseMethodDescriptor yX6_sheet.desc).map (fun d => d.parameters.length) = some 3 := by decide +kernel
set_option maxHeartbeats 4000000 in
set_option maxRecDepth 100000 in
theorem kX6_sheet (l : Launch) (g : Gx) (sz : Nat) (a_m : Nat → Nat) (st : AI) (now : AI) (isKept : AI) (hearers : Int32) (draft : AI) (dHearers : Int32) (dWalls : Int32) (toldWinds : Int32) (tape : AI) (taped : Int32) (pos : Int32) (frm : Int32) (sort : Int32) (value : Int32) (fault : Int32) (wrongAt : Int32) (landed : AI) (landedIn : AI) (stepped : AI) (isThere : AI) (isAt : AI) (isNext : AI) (landSum : Int64) (heardSum : Int64) (allWays : Int64) (ways : AI) (drawn : AI) (lanes : AI) (sizes : AI) (cells : AI) (torn : Int32) (before : AI) (p1 : Int32) (p2 : Int32) (p3 : Int32) (res : Int32) (lanes_o : AI) (sizes_o : AI) (cells_o : AI) (hf : fX6_sheet p1 p2 p3 lanes sizes cells = some (res, lanes_o, sizes_o, cells_o)) : Met l yX6_sheet (cdX6_sheet :: wsL_law) rmX6_sheet (va_Pc [.ref (a_m 0), .int p1, .int p2, .int p3] (RWp g sz (wM g a_m st now isKept hearers draft dHearers dWalls toldWinds tape taped pos frm sort value fault wrongAt landed landedIn stepped isThere isAt isNext landSum heardSum allWays ways drawn lanes sizes cells torn before))) (va_Qi (fun x (_ : Unit) => x = res) (fun _ => RWq g (va_A (wM g a_m st now isKept hearers draft dHearers dWalls toldWinds tape taped pos frm sort value fault wrongAt landed landedIn stepped isThere isAt isNext landSum heardSum allWays ways drawn lanes sizes cells torn before) sz) (wM g a_m st now isKept hearers draft dHearers dWalls toldWinds tape taped pos frm sort value fault wrongAt landed landedIn stepped isThere isAt isNext landSum heardSum allWays ways drawn lanes_o sizes_o cells_o torn before)) (va_A (wM g a_m st now isKept hearers draft dHearers dWalls toldWinds tape taped pos frm sort value fault wrongAt landed landedIn stepped isThere isAt isNext landSum heardSum allWays ways drawn lanes sizes cells torn before) sz)) 0 0 (va_A (wM g a_m st now isKept hearers draft dHearers dWalls toldWinds tape taped pos frm sort value fault wrongAt landed landedIn stepped isThere isAt isNext landSum heardSum allWays ways drawn lanes sizes cells torn before) sz) := by
  refine Met_rwi (cc := cX6_sheet) (maxL := 5) (by decide) rfl (Nat.le_of_ble_eq_true rfl) ?_
  intro P E Z Mi AR BE ME CO A Q C hK hA fin w ls hl
  have hl : lv_has ls 5 [(0, .ref (a_m 0)), (1, .int p1), (2, .int p2), (3, .int p3)] := hl
  unfold fX6_sheet at hf
  refine lv_iload_n C.1 C.2.1 (dk_at dkX6_sheet 0 rfl) rfl (lv_at hl 1 rfl) ?_
  refine lv_iload_n C.1 C.2.1 (dk_at dkX6_sheet 1 rfl) rfl (lv_at hl 2 rfl) ?_
  obtain ⟨r1, hq2, hf⟩ := bd1_at hf
  refine r_st (As := [.int p1, .int p2]) (rest := []) C (kX6_isSheet l p1 p2 r1 hq2) (cwS0 C (inr40 _ (List.mem_of_getElem? (i := 1) rfl)) mwX6_isSheet hdX6_isSheet ⟨Nat.le_of_ble_eq_true rfl, Nat.le_of_ble_eq_true rfl⟩) rfl hl.1 rfl (Nat.le_of_ble_eq_true rfl) ⟨Nat.zero_le _, Nat.zero_le _⟩ (dk_at dkX6_sheet 2 rfl) ?_
  refine lv_if_eq (tgt := 14) C.1 C.2.1 (dk_at dkX6_sheet 3 rfl) (by decide) (fun c3 => ?_) (fun c3 => ?_)
  · have hf := (if_pos c3).symm.trans hf
    refine lv_iconst (v := (-1)) C.1 C.2.1 (dk_at dkX6_sheet 7 rfl) (by decide) ?_
    cases hf
    exact fin _ _ _ _ _ (dk_at dkX6_sheet 8 rfl) rfl w
  · have hf := (if_neg c3).symm.trans hf
    refine lv_iload_n C.1 C.2.1 (dk_at dkX6_sheet 4 rfl) rfl (lv_at hl 3 rfl) ?_
    refine lv_bipush (v := 40) C.1 C.2.1 (dk_at dkX6_sheet 5 rfl) (by decide) ?_
    refine lv_icmp_le (tgt := 16) C.1 C.2.1 (dk_at dkX6_sheet 6 rfl) (by decide) (fun c4 => ?_) (fun c4 => ?_)
    · have hf := (if_pos c4).symm.trans hf
      refine lv_iload_n C.1 C.2.1 (dk_at dkX6_sheet 9 rfl) rfl (lv_at hl 3 rfl) ?_
      refine lv_if_ge (tgt := 23) C.1 C.2.1 (dk_at dkX6_sheet 10 rfl) (by decide) (fun c5 => ?_) (fun c5 => ?_)
      · have hf := (if_pos c5).symm.trans hf
        refine lv_aload_n C.1 C.2.1 (dk_at dkX6_sheet 13 rfl) rfl (lv_at hl 0 rfl) ?_
        refine r_get (v := .ref (a_m 14)) C hK w.1 (fun w h => List.mem_cons_of_mem _ (inlX6 w h)) 0 rfl rfl 27 (by decide) (List.mem_cons_of_mem _ (inr4 _ (List.mem_of_getElem? (i := 17) rfl))) rfl (dk_at dkX6_sheet 14 rfl) ?_
        refine lv_iload_n C.1 C.2.1 (dk_at dkX6_sheet 15 rfl) rfl (lv_at hl 1 rfl) ?_
        refine lv_iload_n C.1 C.2.1 (dk_at dkX6_sheet 16 rfl) rfl (lv_at hl 2 rfl) ?_
        obtain ⟨h6, hf⟩ := gd_at hf
        refine r_iast (k := p1.toNatClampNeg) (f := lanes) C hK w 14 rfl h6 rfl (dk_at dkX6_sheet 17 rfl) (fun H locs w => ?_)
        obtain ⟨lanes_7, elanes_7⟩ : ∃ z : AI, z = upd lanes p1.toNatClampNeg p2 := ⟨_, rfl⟩
        have hf := nm_at elanes_7 hf
        have w : Wd g A Z.heap (wM g a_m st now isKept hearers draft dHearers dWalls toldWinds tape taped pos frm sort value fault wrongAt landed landedIn stepped isThere isAt isNext landSum heardSum allWays ways drawn lanes_7 sizes cells torn before) H locs := by rw [elanes_7]; exact w
        refine lv_aload_n C.1 C.2.1 (dk_at dkX6_sheet 18 rfl) rfl (lv_at hl 0 rfl) ?_
        refine r_get (v := .ref (a_m 15)) C hK w.1 (fun w h => List.mem_cons_of_mem _ (inlX6 w h)) 0 rfl rfl 28 (by decide) (List.mem_cons_of_mem _ (inr4 _ (List.mem_of_getElem? (i := 18) rfl))) rfl (dk_at dkX6_sheet 19 rfl) ?_
        refine lv_iload_n C.1 C.2.1 (dk_at dkX6_sheet 20 rfl) rfl (lv_at hl 1 rfl) ?_
        refine lv_iload_n C.1 C.2.1 (dk_at dkX6_sheet 21 rfl) rfl (lv_at hl 3 rfl) ?_
        obtain ⟨h8, hf⟩ := gd_at hf
        refine r_iast (k := p1.toNatClampNeg) (f := sizes) C hK w 15 rfl h8 rfl (dk_at dkX6_sheet 22 rfl) (fun H locs w => ?_)
        obtain ⟨sizes_9, esizes_9⟩ : ∃ z : AI, z = upd sizes p1.toNatClampNeg p3 := ⟨_, rfl⟩
        have hf := nm_at esizes_9 hf
        have w : Wd g A Z.heap (wM g a_m st now isKept hearers draft dHearers dWalls toldWinds tape taped pos frm sort value fault wrongAt landed landedIn stepped isThere isAt isNext landSum heardSum allWays ways drawn lanes_7 sizes_9 cells torn before) H locs := by rw [esizes_9]; exact w
        refine lv_iconst (v := 0) C.1 C.2.1 (dk_at dkX6_sheet 23 rfl) (by decide) ?_
        refine lv_istore (lv' := [(4, .int 0), (0, .ref (a_m 0)), (1, .int p1), (2, .int p2), (3, .int p3)]) C.1 C.2.1 (dk_at dkX6_sheet 24 rfl) hl (by decide) rfl (fun ls hl => ?_)
        have L12 : ∀ (K : Int32 → AI → Option (Int32 × AI × AI × AI)), (∀ (v10 : Int32) (cells_11 : AI) (H : Heap) (locs : List Loc) (ls : Array Slot), Wd g A Z.heap (wM g a_m st now isKept hearers draft dHearers dWalls toldWinds tape taped pos frm sort value fault wrongAt landed landedIn stepped isThere isAt isNext landSum heardSum allWays ways drawn lanes_7 sizes_9 cells_11 torn before) H locs → lv_has ls 5 [] → K v10 cells_11 = some (res, lanes_o, sizes_o, cells_o) → W P l E rmX6_sheet Z Mi AR BE ME CO H locs 0 0 Q (F0 Mi 66 ls [])) → ∀ (n : Nat), ∀ (v10 : Int32) (cells_11 : AI) (H : Heap) (locs : List Loc) (ls : Array Slot), Wd g A Z.heap (wM g a_m st now isKept hearers draft dHearers dWalls toldWinds tape taped pos frm sort value fault wrongAt landed landedIn stepped isThere isAt isNext landSum heardSum allWays ways drawn lanes_7 sizes_9 cells_11 torn before) H locs → lv_has ls 5 [(4, .int v10), (0, .ref (a_m 0)), (1, .int p1)] → fX6_sheet_L40 p1 K n v10 cells_11 = some (res, lanes_o, sizes_o, cells_o) → W P l E rmX6_sheet Z Mi AR BE ME CO H locs 0 0 Q (F0 Mi 40 ls []) := by
          intro K hKe n
          induction n with
          | zero => intro v10 cells_11 H locs ls w hl hf; cases hf
          | succ n ih =>
            intro v10 cells_11 H locs ls w hl hf
            rw [fX6_sheet_L40] at hf
            refine lv_iload C.1 C.2.1 (dk_at dkX6_sheet 25 rfl) (lv_at hl 0 rfl) ?_
            refine lv_bipush (v := 40) C.1 C.2.1 (dk_at dkX6_sheet 26 rfl) (by decide) ?_
            refine lv_icmp_ge (tgt := 66) C.1 C.2.1 (dk_at dkX6_sheet 27 rfl) (by decide) (fun c13 => ?_) (fun c13 => ?_)
            · have hf := (if_pos c13).symm.trans hf
              exact hKe v10 cells_11 _ _ _ w (lv_sub hl [] rfl) hf
            · have hf := (if_neg c13).symm.trans hf
              refine lv_aload_n C.1 C.2.1 (dk_at dkX6_sheet 28 rfl) rfl (lv_at hl 1 rfl) ?_
              refine r_get (v := .ref (a_m 16)) C hK w.1 (fun w h => List.mem_cons_of_mem _ (inlX6 w h)) 0 rfl rfl 29 (by decide) (List.mem_cons_of_mem _ (inr4 _ (List.mem_of_getElem? (i := 19) rfl))) rfl (dk_at dkX6_sheet 29 rfl) ?_
              refine lv_bipush (v := 40) C.1 C.2.1 (dk_at dkX6_sheet 30 rfl) (by decide) ?_
              refine lv_iload_n C.1 C.2.1 (dk_at dkX6_sheet 31 rfl) rfl (lv_at hl 2 rfl) ?_
              refine lv_imul C.1 C.2.1 (dk_at dkX6_sheet 32 rfl) ?_
              refine lv_topi (fun x14 ex14 => ?_)
              have hf := nm_at ex14 hf
              refine lv_iload C.1 C.2.1 (dk_at dkX6_sheet 33 rfl) (lv_at hl 0 rfl) ?_
              refine lv_iadd C.1 C.2.1 (dk_at dkX6_sheet 34 rfl) ?_
              refine lv_topi (fun x15 ex15 => ?_)
              have hf := nm_at ex15 hf
              refine lv_iconst (v := 0) C.1 C.2.1 (dk_at dkX6_sheet 35 rfl) (by decide) ?_
              obtain ⟨h16, hf⟩ := gd_at hf
              refine r_iast (k := x15.toNatClampNeg) (f := cells_11) C hK w 16 rfl h16 rfl (dk_at dkX6_sheet 36 rfl) (fun H locs w => ?_)
              obtain ⟨cells_17, ecells_17⟩ : ∃ z : AI, z = upd cells_11 x15.toNatClampNeg 0 := ⟨_, rfl⟩
              have hf := nm_at ecells_17 hf
              have w : Wd g A Z.heap (wM g a_m st now isKept hearers draft dHearers dWalls toldWinds tape taped pos frm sort value fault wrongAt landed landedIn stepped isThere isAt isNext landSum heardSum allWays ways drawn lanes_7 sizes_9 cells_17 torn before) H locs := by rw [ecells_17]; exact w
              obtain ⟨x18, ex18⟩ : ∃ z : Int32, z = v10 + 1 := ⟨_, rfl⟩
              have hf := nm_at ex18 hf
              refine lv_iinc (v := x18) (lv' := [(4, .int x18), (0, .ref (a_m 0)), (1, .int p1)]) C.1 C.2.1 (dk_at dkX6_sheet 37 rfl) hl (k := 0) rfl (by rw [ex18]; rfl) (by decide) rfl (fun ls hl => ?_)
              refine lv_goto (tgt := 40) C.1 C.2.1 (dk_at dkX6_sheet 38 rfl) (by decide) ?_
              exact ih x18 cells_17 _ _ _ w (lv_sub hl [0, 1, 2] rfl) hf
        refine L12 _ ?_ 4096 0 cells _ _ _ w (lv_sub hl [0, 1, 2] rfl) hf
        clear hf
        intro v10 cells_11 H locs ls w hl hf
        refine lv_iconst (v := 1) C.1 C.2.1 (dk_at dkX6_sheet 39 rfl) (by decide) ?_
        cases hf
        exact fin _ _ _ _ _ (dk_at dkX6_sheet 40 rfl) rfl w
      · have hf := (if_neg c5).symm.trans hf
        refine lv_bipush (v := (-14)) C.1 C.2.1 (dk_at dkX6_sheet 11 rfl) (by decide) ?_
        cases hf
        exact fin _ _ _ _ _ (dk_at dkX6_sheet 12 rfl) rfl w
    · have hf := (if_neg c4).symm.trans hf
      refine lv_iconst (v := (-1)) C.1 C.2.1 (dk_at dkX6_sheet 7 rfl) (by decide) ?_
      cases hf
      exact fin _ _ _ _ _ (dk_at dkX6_sheet 8 rfl) rfl w
-- X6.lay
abbrev tbX6_lay : List (Nat × Instr × Nat) := [(0, .iload_n 1, 1), (1, .iconst 0, 1), (2, .invokestatic 306, 3), (5, .ifCond .ne 5, 3), (8, .iconst (-1), 1), (9, .ireturn, 1), (10, .aload_n 0, 1), (11, .getfield 50, 3), (14, .iload_n 1, 1), (15, .iaload, 1), (16, .bipush (-4), 2), (18, .if_icmp .ne 6, 3), (21, .bipush (-11), 2), (23, .ireturn, 1), (24, .iload_n 2, 1), (25, .i2l, 1), (26, .lconst 0, 1), (27, .aload_n 0, 1), (28, .getfield 53, 3), (31, .iload_n 1, 1), (32, .iaload, 1), (33, .iconst 1, 1), (34, .isub, 1), (35, .i2l, 1), (36, .invokestatic 83, 3), (39, .ifCond .ne 6, 3), (42, .bipush (-12), 2), (44, .ireturn, 1), (45, .aload_n 0, 1), (46, .getfield 56, 3), (49, .bipush 40, 2), (51, .iload_n 1, 1), (52, .imul, 1), (53, .iload_n 2, 1), (54, .iadd, 1), (55, .aload_n 0, 1), (56, .getfield 50, 3), (59, .iload_n 1, 1), (60, .iaload, 1), (61, .ifCond .ne 8, 3), (64, .iload_n 3, 1), (65, .i2b, 1), (66, .goto 19, 3), (69, .aload_n 0, 1), (70, .getfield 50, 3), (73, .iload_n 1, 1), (74, .iaload, 1), (75, .iconst 1, 1), (76, .if_icmp .ne 8, 3), (79, .iload_n 3, 1), (80, .i2s, 1), (81, .goto 4, 3), (84, .iload_n 3, 1), (85, .iastore, 1), (86, .iconst 1, 1), (87, .ireturn, 1)]
theorem dkX6_lay : dk cX6_lay tbX6_lay := dk_of (by decide +kernel)
abbrev cdX6_lay : Cond := Cond.code yX6_lay cX6_lay 4 (some .int)
abbrev rmX6_lay : Room := { frames := 2, cells := 0, slots := 0, locals := 46 }
theorem mwX6_lay : Cond.instanceMethod yX6_lay ∈ wsL_law ∧ Cond.selects RX6 yX6_lay yX6_lay ∈ wsL_law ∧ Cond.initialized RX6 ∈ wsL_law ∧ cdX6_lay ∈ wsL_law := ⟨inr40 _ (List.mem_of_getElem? (i := 18) rfl), inr40 _ (List.mem_of_getElem? (i := 19) rfl), inr1 _ (List.mem_of_getElem? (i := 5) rfl), inr40 _ (List.mem_of_getElem? (i := 20) rfl)⟩
theorem hdX6_lay : yX6_lay.cls = RX6 ∧ yX6_lay.cls ≠ "java/lang/invoke/MethodHandle" ∧ yX6_lay.cls ≠ "java/lang/invoke/VarHandle" ∧ (parseMethodDescriptor yX6_lay.desc).map (fun d => d.parameters.length) = some 3 := by decide +kernel
set_option maxHeartbeats 4000000 in
set_option maxRecDepth 100000 in
theorem kX6_lay (l : Launch) (g : Gx) (sz : Nat) (a_m : Nat → Nat) (st : AI) (now : AI) (isKept : AI) (hearers : Int32) (draft : AI) (dHearers : Int32) (dWalls : Int32) (toldWinds : Int32) (tape : AI) (taped : Int32) (pos : Int32) (frm : Int32) (sort : Int32) (value : Int32) (fault : Int32) (wrongAt : Int32) (landed : AI) (landedIn : AI) (stepped : AI) (isThere : AI) (isAt : AI) (isNext : AI) (landSum : Int64) (heardSum : Int64) (allWays : Int64) (ways : AI) (drawn : AI) (lanes : AI) (sizes : AI) (cells : AI) (torn : Int32) (before : AI) (p1 : Int32) (p2 : Int32) (p3 : Int32) (res : Int32) (cells_o : AI) (hf : fX6_lay p1 p2 p3 lanes sizes cells = some (res, cells_o)) : Met l yX6_lay (cdX6_lay :: wsL_law) rmX6_lay (va_Pc [.ref (a_m 0), .int p1, .int p2, .int p3] (RWp g sz (wM g a_m st now isKept hearers draft dHearers dWalls toldWinds tape taped pos frm sort value fault wrongAt landed landedIn stepped isThere isAt isNext landSum heardSum allWays ways drawn lanes sizes cells torn before))) (va_Qi (fun x (_ : Unit) => x = res) (fun _ => RWq g (va_A (wM g a_m st now isKept hearers draft dHearers dWalls toldWinds tape taped pos frm sort value fault wrongAt landed landedIn stepped isThere isAt isNext landSum heardSum allWays ways drawn lanes sizes cells torn before) sz) (wM g a_m st now isKept hearers draft dHearers dWalls toldWinds tape taped pos frm sort value fault wrongAt landed landedIn stepped isThere isAt isNext landSum heardSum allWays ways drawn lanes sizes cells_o torn before)) (va_A (wM g a_m st now isKept hearers draft dHearers dWalls toldWinds tape taped pos frm sort value fault wrongAt landed landedIn stepped isThere isAt isNext landSum heardSum allWays ways drawn lanes sizes cells torn before) sz)) 0 0 (va_A (wM g a_m st now isKept hearers draft dHearers dWalls toldWinds tape taped pos frm sort value fault wrongAt landed landedIn stepped isThere isAt isNext landSum heardSum allWays ways drawn lanes sizes cells torn before) sz) := by
  refine Met_rwi (cc := cX6_lay) (maxL := 4) (by decide) rfl (Nat.le_of_ble_eq_true rfl) ?_
  intro P E Z Mi AR BE ME CO A Q C hK hA fin w ls hl
  have hl : lv_has ls 4 [(0, .ref (a_m 0)), (1, .int p1), (2, .int p2), (3, .int p3)] := hl
  unfold fX6_lay at hf
  refine lv_iload_n C.1 C.2.1 (dk_at dkX6_lay 0 rfl) rfl (lv_at hl 1 rfl) ?_
  refine lv_iconst (v := 0) C.1 C.2.1 (dk_at dkX6_lay 1 rfl) (by decide) ?_
  obtain ⟨r1, hq2, hf⟩ := bd1_at hf
  refine r_st (As := [.int p1, .int 0]) (rest := []) C (kX6_isSheet l p1 0 r1 hq2) (cwS0 C (inr40 _ (List.mem_of_getElem? (i := 1) rfl)) mwX6_isSheet hdX6_isSheet ⟨Nat.le_of_ble_eq_true rfl, Nat.le_of_ble_eq_true rfl⟩) rfl hl.1 rfl (Nat.le_of_ble_eq_true rfl) ⟨Nat.zero_le _, Nat.zero_le _⟩ (dk_at dkX6_lay 2 rfl) ?_
  refine lv_if_ne (tgt := 10) C.1 C.2.1 (dk_at dkX6_lay 3 rfl) (by decide) (fun c3 => ?_) (fun c3 => ?_)
  · have hf := (if_neg c3).symm.trans hf
    refine lv_aload_n C.1 C.2.1 (dk_at dkX6_lay 6 rfl) rfl (lv_at hl 0 rfl) ?_
    refine r_get (v := .ref (a_m 14)) C hK w.1 (fun w h => List.mem_cons_of_mem _ (inlX6 w h)) 0 rfl rfl 27 (by decide) (List.mem_cons_of_mem _ (inr4 _ (List.mem_of_getElem? (i := 17) rfl))) rfl (dk_at dkX6_lay 7 rfl) ?_
    refine lv_iload_n C.1 C.2.1 (dk_at dkX6_lay 8 rfl) rfl (lv_at hl 1 rfl) ?_
    obtain ⟨h4, hf⟩ := gd_at hf
    refine r_iald (k := p1.toNatClampNeg) (f := lanes) C hK w.1 14 rfl h4 rfl (dk_at dkX6_lay 9 rfl) ?_
    refine lv_topi (fun x5 ex5 => ?_)
    have hf := nm_at ex5 hf
    refine lv_bipush (v := (-4)) C.1 C.2.1 (dk_at dkX6_lay 10 rfl) (by decide) ?_
    refine lv_icmp_ne (tgt := 24) C.1 C.2.1 (dk_at dkX6_lay 11 rfl) (by decide) (fun c6 => ?_) (fun c6 => ?_)
    · have hf := (if_neg c6).symm.trans hf
      refine lv_iload_n C.1 C.2.1 (dk_at dkX6_lay 14 rfl) rfl (lv_at hl 2 rfl) ?_
      refine lv_i2l C.1 C.2.1 (dk_at dkX6_lay 15 rfl) rfl ?_
      refine lv_topl (fun x7 ex7 => ?_)
      have hf := nm_at ex7 hf
      refine lv_lconst (v := 0) C.1 C.2.1 (dk_at dkX6_lay 16 rfl) (by decide) ?_
      refine lv_aload_n C.1 C.2.1 (dk_at dkX6_lay 17 rfl) rfl (lv_at hl 0 rfl) ?_
      refine r_get (v := .ref (a_m 15)) C hK w.1 (fun w h => List.mem_cons_of_mem _ (inlX6 w h)) 0 rfl rfl 28 (by decide) (List.mem_cons_of_mem _ (inr4 _ (List.mem_of_getElem? (i := 18) rfl))) rfl (dk_at dkX6_lay 18 rfl) ?_
      refine lv_iload_n C.1 C.2.1 (dk_at dkX6_lay 19 rfl) rfl (lv_at hl 1 rfl) ?_
      obtain ⟨h8, hf⟩ := gd_at hf
      refine r_iald (k := p1.toNatClampNeg) (f := sizes) C hK w.1 15 rfl h8 rfl (dk_at dkX6_lay 20 rfl) ?_
      refine lv_topi (fun x9 ex9 => ?_)
      have hf := nm_at ex9 hf
      refine lv_iconst (v := 1) C.1 C.2.1 (dk_at dkX6_lay 21 rfl) (by decide) ?_
      refine lv_isub C.1 C.2.1 (dk_at dkX6_lay 22 rfl) ?_
      refine lv_i2l C.1 C.2.1 (dk_at dkX6_lay 23 rfl) rfl ?_
      refine lv_topl (fun x10 ex10 => ?_)
      have hf := nm_at ex10 hf
      obtain ⟨r11, hq12, hf⟩ := bd1_at hf
      refine r_st (As := [.long x7, .long 0, .long x10]) (rest := []) C (kX6_in l x7 0 x10 r11 hq12) (cwS0 C (inr5 _ (List.mem_of_getElem? (i := 21) rfl)) mwX6_in hdX6_in ⟨Nat.le_of_ble_eq_true rfl, Nat.le_of_ble_eq_true rfl⟩) rfl hl.1 rfl (Nat.le_of_ble_eq_true rfl) ⟨Nat.zero_le _, Nat.zero_le _⟩ (dk_at dkX6_lay 24 rfl) ?_
      refine lv_if_ne (tgt := 45) C.1 C.2.1 (dk_at dkX6_lay 25 rfl) (by decide) (fun c13 => ?_) (fun c13 => ?_)
      · have hf := (if_neg c13).symm.trans hf
        refine lv_aload_n C.1 C.2.1 (dk_at dkX6_lay 28 rfl) rfl (lv_at hl 0 rfl) ?_
        refine r_get (v := .ref (a_m 16)) C hK w.1 (fun w h => List.mem_cons_of_mem _ (inlX6 w h)) 0 rfl rfl 29 (by decide) (List.mem_cons_of_mem _ (inr4 _ (List.mem_of_getElem? (i := 19) rfl))) rfl (dk_at dkX6_lay 29 rfl) ?_
        refine lv_bipush (v := 40) C.1 C.2.1 (dk_at dkX6_lay 30 rfl) (by decide) ?_
        refine lv_iload_n C.1 C.2.1 (dk_at dkX6_lay 31 rfl) rfl (lv_at hl 1 rfl) ?_
        refine lv_imul C.1 C.2.1 (dk_at dkX6_lay 32 rfl) ?_
        refine lv_topi (fun x14 ex14 => ?_)
        have hf := nm_at ex14 hf
        refine lv_iload_n C.1 C.2.1 (dk_at dkX6_lay 33 rfl) rfl (lv_at hl 2 rfl) ?_
        refine lv_iadd C.1 C.2.1 (dk_at dkX6_lay 34 rfl) ?_
        refine lv_topi (fun x15 ex15 => ?_)
        have hf := nm_at ex15 hf
        refine lv_aload_n C.1 C.2.1 (dk_at dkX6_lay 35 rfl) rfl (lv_at hl 0 rfl) ?_
        refine r_get (v := .ref (a_m 14)) C hK w.1 (fun w h => List.mem_cons_of_mem _ (inlX6 w h)) 0 rfl rfl 27 (by decide) (List.mem_cons_of_mem _ (inr4 _ (List.mem_of_getElem? (i := 17) rfl))) rfl (dk_at dkX6_lay 36 rfl) ?_
        refine lv_iload_n C.1 C.2.1 (dk_at dkX6_lay 37 rfl) rfl (lv_at hl 1 rfl) ?_
        obtain ⟨h16, hf⟩ := gd_at hf
        refine r_iald (k := p1.toNatClampNeg) (f := lanes) C hK w.1 14 rfl h16 rfl (dk_at dkX6_lay 38 rfl) ?_
        refine lv_if_ne (tgt := 69) C.1 C.2.1 (dk_at dkX6_lay 39 rfl) (by decide) (fun c17 => ?_) (fun c17 => ?_)
        · have hf := (if_neg c17).symm.trans hf
          refine lv_aload_n C.1 C.2.1 (dk_at dkX6_lay 43 rfl) rfl (lv_at hl 0 rfl) ?_
          refine r_get (v := .ref (a_m 14)) C hK w.1 (fun w h => List.mem_cons_of_mem _ (inlX6 w h)) 0 rfl rfl 27 (by decide) (List.mem_cons_of_mem _ (inr4 _ (List.mem_of_getElem? (i := 17) rfl))) rfl (dk_at dkX6_lay 44 rfl) ?_
          refine lv_iload_n C.1 C.2.1 (dk_at dkX6_lay 45 rfl) rfl (lv_at hl 1 rfl) ?_
          obtain ⟨h18, hf⟩ := gd_at hf
          refine r_iald (k := p1.toNatClampNeg) (f := lanes) C hK w.1 14 rfl h18 rfl (dk_at dkX6_lay 46 rfl) ?_
          refine lv_topi (fun x19 ex19 => ?_)
          have hf := nm_at ex19 hf
          refine lv_iconst (v := 1) C.1 C.2.1 (dk_at dkX6_lay 47 rfl) (by decide) ?_
          refine lv_icmp_ne (tgt := 84) C.1 C.2.1 (dk_at dkX6_lay 48 rfl) (by decide) (fun c20 => ?_) (fun c20 => ?_)
          · have hf := (if_neg c20).symm.trans hf
            refine lv_iload_n C.1 C.2.1 (dk_at dkX6_lay 52 rfl) rfl (lv_at hl 3 rfl) ?_
            obtain ⟨h21, hf⟩ := gd_at hf
            refine r_iast (k := x15.toNatClampNeg) (f := cells) C hK w 16 rfl h21 rfl (dk_at dkX6_lay 53 rfl) (fun H locs w => ?_)
            obtain ⟨cells_22, ecells_22⟩ : ∃ z : AI, z = upd cells x15.toNatClampNeg p3 := ⟨_, rfl⟩
            have hf := nm_at ecells_22 hf
            have w : Wd g A Z.heap (wM g a_m st now isKept hearers draft dHearers dWalls toldWinds tape taped pos frm sort value fault wrongAt landed landedIn stepped isThere isAt isNext landSum heardSum allWays ways drawn lanes sizes cells_22 torn before) H locs := by rw [ecells_22]; exact w
            refine lv_iconst (v := 1) C.1 C.2.1 (dk_at dkX6_lay 54 rfl) (by decide) ?_
            cases hf
            exact fin _ _ _ _ _ (dk_at dkX6_lay 55 rfl) rfl w
          · have hf := (if_pos c20).symm.trans hf
            refine lv_iload_n C.1 C.2.1 (dk_at dkX6_lay 49 rfl) rfl (lv_at hl 3 rfl) ?_
            refine lv_i2s C.1 C.2.1 (dk_at dkX6_lay 50 rfl) rfl ?_
            refine lv_topi (fun x23 ex23 => ?_)
            have hf := nm_at ex23 hf
            refine lv_goto (tgt := 85) C.1 C.2.1 (dk_at dkX6_lay 51 rfl) (by decide) ?_
            obtain ⟨h24, hf⟩ := gd_at hf
            refine r_iast (k := x15.toNatClampNeg) (f := cells) C hK w 16 rfl h24 rfl (dk_at dkX6_lay 53 rfl) (fun H locs w => ?_)
            obtain ⟨cells_25, ecells_25⟩ : ∃ z : AI, z = upd cells x15.toNatClampNeg x23 := ⟨_, rfl⟩
            have hf := nm_at ecells_25 hf
            have w : Wd g A Z.heap (wM g a_m st now isKept hearers draft dHearers dWalls toldWinds tape taped pos frm sort value fault wrongAt landed landedIn stepped isThere isAt isNext landSum heardSum allWays ways drawn lanes sizes cells_25 torn before) H locs := by rw [ecells_25]; exact w
            refine lv_iconst (v := 1) C.1 C.2.1 (dk_at dkX6_lay 54 rfl) (by decide) ?_
            cases hf
            exact fin _ _ _ _ _ (dk_at dkX6_lay 55 rfl) rfl w
        · have hf := (if_pos c17).symm.trans hf
          refine lv_iload_n C.1 C.2.1 (dk_at dkX6_lay 40 rfl) rfl (lv_at hl 3 rfl) ?_
          refine lv_i2b C.1 C.2.1 (dk_at dkX6_lay 41 rfl) rfl ?_
          refine lv_topi (fun x26 ex26 => ?_)
          have hf := nm_at ex26 hf
          refine lv_goto (tgt := 85) C.1 C.2.1 (dk_at dkX6_lay 42 rfl) (by decide) ?_
          obtain ⟨h27, hf⟩ := gd_at hf
          refine r_iast (k := x15.toNatClampNeg) (f := cells) C hK w 16 rfl h27 rfl (dk_at dkX6_lay 53 rfl) (fun H locs w => ?_)
          obtain ⟨cells_28, ecells_28⟩ : ∃ z : AI, z = upd cells x15.toNatClampNeg x26 := ⟨_, rfl⟩
          have hf := nm_at ecells_28 hf
          have w : Wd g A Z.heap (wM g a_m st now isKept hearers draft dHearers dWalls toldWinds tape taped pos frm sort value fault wrongAt landed landedIn stepped isThere isAt isNext landSum heardSum allWays ways drawn lanes sizes cells_28 torn before) H locs := by rw [ecells_28]; exact w
          refine lv_iconst (v := 1) C.1 C.2.1 (dk_at dkX6_lay 54 rfl) (by decide) ?_
          cases hf
          exact fin _ _ _ _ _ (dk_at dkX6_lay 55 rfl) rfl w
      · have hf := (if_pos c13).symm.trans hf
        refine lv_bipush (v := (-12)) C.1 C.2.1 (dk_at dkX6_lay 26 rfl) (by decide) ?_
        cases hf
        exact fin _ _ _ _ _ (dk_at dkX6_lay 27 rfl) rfl w
    · have hf := (if_pos c6).symm.trans hf
      refine lv_bipush (v := (-11)) C.1 C.2.1 (dk_at dkX6_lay 12 rfl) (by decide) ?_
      cases hf
      exact fin _ _ _ _ _ (dk_at dkX6_lay 13 rfl) rfl w
  · have hf := (if_pos c3).symm.trans hf
    refine lv_iconst (v := (-1)) C.1 C.2.1 (dk_at dkX6_lay 4 rfl) (by decide) ?_
    cases hf
    exact fin _ _ _ _ _ (dk_at dkX6_lay 5 rfl) rfl w
-- X6.read
abbrev tbX6_read : List (Nat × Instr × Nat) := [(0, .iload_n 1, 1), (1, .iload_n 2, 1), (2, .invokestatic 306, 3), (5, .ifCond .eq 16, 3), (8, .iload 4, 2), (10, .i2l, 1), (11, .lconst 0, 1), (12, .ldc2_w 309, 3), (15, .invokestatic 83, 3), (18, .ifCond .ne 5, 3), (21, .iconst (-1), 1), (22, .ireturn, 1), (23, .iconst 0, 1), (24, .istore 5, 2), (26, .iload 5, 2), (28, .bipush 61, 2), (30, .if_icmp .ge 23, 3), (33, .aload_n 0, 1), (34, .getfield 59, 3), (37, .iload 5, 2), (39, .aload_n 0, 1), (40, .getfield 7, 3), (43, .iload 5, 2), (45, .iaload, 1), (46, .iastore, 1), (47, .iinc 5 1, 3), (50, .goto (-24), 3), (53, .iconst 0, 1), (54, .istore 5, 2), (56, .iconst 0, 1), (57, .istore 6, 2), (59, .iconst 0, 1), (60, .istore 7, 2), (62, .iload 7, 2), (64, .iload 4, 2), (66, .if_icmp .ge 193, 3), (69, .iload 5, 2), (71, .ifCond .ne 188, 3), (74, .iconst 0, 1), (75, .istore 8, 2), (77, .iload 8, 2), (79, .iconst 3, 1), (80, .if_icmp .ge 84, 3), (83, .iload 5, 2), (85, .ifCond .ne 79, 3), (88, .iload_n 3, 1), (89, .i2l, 1), (90, .iconst 3, 1), (91, .iload 7, 2), (93, .imul, 1), (94, .i2l, 1), (95, .ladd, 1), (96, .iload 8, 2), (98, .i2l, 1), (99, .ladd, 1), (100, .lstore 9, 2), (102, .aload_n 0, 1), (103, .getfield 50, 3), (106, .iload_n 1, 1), (107, .iaload, 1), (108, .bipush (-4), 2), (110, .if_icmp .ne 7, 3), (113, .iconst 1, 1), (114, .goto 42, 3), (117, .aload_n 0, 1), (118, .getfield 50, 3), (121, .iload_n 1, 1), (122, .iaload, 1), (123, .iload_n 2, 1), (124, .if_icmp .eq 7, 3), (127, .iconst 3, 1), (128, .goto 28, 3), (131, .lload 9, 2), (133, .lconst 0, 1), (134, .lcmp, 1), (135, .ifCond .lt 16, 3), (138, .lload 9, 2), (140, .aload_n 0, 1), (141, .getfield 53, 3), (144, .iload_n 1, 1), (145, .iaload, 1), (146, .i2l, 1), (147, .lcmp, 1), (148, .ifCond .lt 7, 3), (151, .iconst 2, 1), (152, .goto 4, 3), (155, .iconst 0, 1), (156, .istore 5, 2), (158, .iinc 8 1, 3), (161, .goto (-84), 3), (164, .iload 5, 2), (166, .ifCond .ne 87, 3), (169, .bipush 40, 2), (171, .iload_n 1, 1), (172, .imul, 1), (173, .iload_n 3, 1), (174, .iadd, 1), (175, .iconst 3, 1), (176, .iload 7, 2), (178, .imul, 1), (179, .iadd, 1), (180, .istore 8, 2), (182, .aload_n 0, 1), (183, .aload_n 0, 1), (184, .getfield 56, 3), (187, .iload 8, 2), (189, .iaload, 1), (190, .aload_n 0, 1), (191, .getfield 56, 3), (194, .iload 8, 2), (196, .iconst 1, 1), (197, .iadd, 1), (198, .iaload, 1), (199, .aload_n 0, 1), (200, .getfield 56, 3), (203, .iload 8, 2), (205, .iconst 2, 1), (206, .iadd, 1), (207, .iaload, 1), (208, .invokevirtual 311, 3), (211, .ifCond .ge 39, 3), (214, .iconst 0, 1), (215, .istore 9, 2), (217, .iload 9, 2), (219, .bipush 61, 2), (221, .if_icmp .ge 23, 3), (224, .aload_n 0, 1), (225, .getfield 7, 3), (228, .iload 9, 2), (230, .aload_n 0, 1), (231, .getfield 59, 3), (234, .iload 9, 2), (236, .iaload, 1), (237, .iastore, 1), (238, .iinc 9 1, 3), (241, .goto (-24), 3), (244, .bipush (-20), 2), (246, .iload 7, 2), (248, .isub, 1), (249, .ireturn, 1), (250, .iinc 6 1, 3), (253, .iinc 7 1, 3), (256, .goto (-194), 3), (259, .aload_n 0, 1), (260, .iload 5, 2), (262, .putfield 315, 3), (265, .iload 6, 2), (267, .ireturn, 1)]
theorem dkX6_read : dk cX6_read tbX6_read := dk_of (by decide +kernel)
abbrev cdX6_read : Cond := Cond.code yX6_read cX6_read 11 (some .int)
abbrev rmX6_read : Room := { frames := 2, cells := 0, slots := 0, locals := 49 }
theorem mwX6_read : Cond.instanceMethod yX6_read ∈ wsL_law ∧ Cond.selects RX6 yX6_read yX6_read ∈ wsL_law ∧ Cond.initialized RX6 ∈ wsL_law ∧ cdX6_read ∈ wsL_law := ⟨inr41 _ (List.mem_of_getElem? (i := 12) rfl), inr41 _ (List.mem_of_getElem? (i := 13) rfl), inr1 _ (List.mem_of_getElem? (i := 5) rfl), inr41 _ (List.mem_of_getElem? (i := 14) rfl)⟩
theorem hdX6_read : yX6_read.cls = RX6 ∧ yX6_read.cls ≠ "java/lang/invoke/MethodHandle" ∧ yX6_read.cls ≠ "java/lang/invoke/VarHandle" ∧ (parseMethodDescriptor yX6_read.desc).map (fun d => d.parameters.length) = some 4 := by decide +kernel
set_option maxHeartbeats 4000000 in
set_option maxRecDepth 100000 in
theorem kX6_read (l : Launch) (g : Gx) (sz : Nat) (a_m : Nat → Nat) (st : AI) (now : AI) (isKept : AI) (hearers : Int32) (draft : AI) (dHearers : Int32) (dWalls : Int32) (toldWinds : Int32) (tape : AI) (taped : Int32) (pos : Int32) (frm : Int32) (sort : Int32) (value : Int32) (fault : Int32) (wrongAt : Int32) (landed : AI) (landedIn : AI) (stepped : AI) (isThere : AI) (isAt : AI) (isNext : AI) (landSum : Int64) (heardSum : Int64) (allWays : Int64) (ways : AI) (drawn : AI) (lanes : AI) (sizes : AI) (cells : AI) (torn : Int32) (before : AI) (p1 : Int32) (p2 : Int32) (p3 : Int32) (p4 : Int32) (res : Int32) (st_o : AI) (torn_o : Int32) (before_o : AI) (hf : fX6_read p1 p2 p3 p4 st lanes sizes cells torn before = some (res, st_o, torn_o, before_o)) : Met l yX6_read (cdX6_read :: wsL_law) rmX6_read (va_Pc [.ref (a_m 0), .int p1, .int p2, .int p3, .int p4] (RWp g sz (wM g a_m st now isKept hearers draft dHearers dWalls toldWinds tape taped pos frm sort value fault wrongAt landed landedIn stepped isThere isAt isNext landSum heardSum allWays ways drawn lanes sizes cells torn before))) (va_Qi (fun x (_ : Unit) => x = res) (fun _ => RWq g (va_A (wM g a_m st now isKept hearers draft dHearers dWalls toldWinds tape taped pos frm sort value fault wrongAt landed landedIn stepped isThere isAt isNext landSum heardSum allWays ways drawn lanes sizes cells torn before) sz) (wM g a_m st_o now isKept hearers draft dHearers dWalls toldWinds tape taped pos frm sort value fault wrongAt landed landedIn stepped isThere isAt isNext landSum heardSum allWays ways drawn lanes sizes cells torn_o before_o)) (va_A (wM g a_m st now isKept hearers draft dHearers dWalls toldWinds tape taped pos frm sort value fault wrongAt landed landedIn stepped isThere isAt isNext landSum heardSum allWays ways drawn lanes sizes cells torn before) sz)) 0 0 (va_A (wM g a_m st now isKept hearers draft dHearers dWalls toldWinds tape taped pos frm sort value fault wrongAt landed landedIn stepped isThere isAt isNext landSum heardSum allWays ways drawn lanes sizes cells torn before) sz) := by
  refine Met_rwi (cc := cX6_read) (maxL := 11) (by decide) rfl (Nat.le_of_ble_eq_true rfl) ?_
  intro P E Z Mi AR BE ME CO A Q C hK hA fin w ls hl
  have hl : lv_has ls 11 [(0, .ref (a_m 0)), (1, .int p1), (2, .int p2), (3, .int p3), (4, .int p4)] := hl
  unfold fX6_read at hf
  refine lv_iload_n C.1 C.2.1 (dk_at dkX6_read 0 rfl) rfl (lv_at hl 1 rfl) ?_
  refine lv_iload_n C.1 C.2.1 (dk_at dkX6_read 1 rfl) rfl (lv_at hl 2 rfl) ?_
  obtain ⟨r1, hq2, hf⟩ := bd1_at hf
  refine r_st (As := [.int p1, .int p2]) (rest := []) C (kX6_isSheet l p1 p2 r1 hq2) (cwS0 C (inr40 _ (List.mem_of_getElem? (i := 1) rfl)) mwX6_isSheet hdX6_isSheet ⟨Nat.le_of_ble_eq_true rfl, Nat.le_of_ble_eq_true rfl⟩) rfl hl.1 rfl (Nat.le_of_ble_eq_true rfl) ⟨Nat.zero_le _, Nat.zero_le _⟩ (dk_at dkX6_read 2 rfl) ?_
  refine lv_if_eq (tgt := 21) C.1 C.2.1 (dk_at dkX6_read 3 rfl) (by decide) (fun c3 => ?_) (fun c3 => ?_)
  · have hf := (if_pos c3).symm.trans hf
    refine lv_iconst (v := (-1)) C.1 C.2.1 (dk_at dkX6_read 10 rfl) (by decide) ?_
    cases hf
    exact fin _ _ _ _ _ (dk_at dkX6_read 11 rfl) rfl w
  · have hf := (if_neg c3).symm.trans hf
    refine lv_iload C.1 C.2.1 (dk_at dkX6_read 4 rfl) (lv_at hl 4 rfl) ?_
    refine lv_i2l C.1 C.2.1 (dk_at dkX6_read 5 rfl) rfl ?_
    refine lv_topl (fun x4 ex4 => ?_)
    have hf := nm_at ex4 hf
    refine lv_lconst (v := 0) C.1 C.2.1 (dk_at dkX6_read 6 rfl) (by decide) ?_
    refine lv_ldc2 (v := 13) C.1 C.2.1 C.2.2.2.1 (C.2.2.2.2 _ (List.mem_cons_of_mem _ (inr41 _ (List.mem_of_getElem? (i := 15) rfl)))) (dk_at dkX6_read 7 rfl) ?_
    obtain ⟨r5, hq6, hf⟩ := bd1_at hf
    refine r_st (As := [.long x4, .long 0, .long 13]) (rest := []) C (kX6_in l x4 0 13 r5 hq6) (cwS0 C (inr5 _ (List.mem_of_getElem? (i := 21) rfl)) mwX6_in hdX6_in ⟨Nat.le_of_ble_eq_true rfl, Nat.le_of_ble_eq_true rfl⟩) rfl hl.1 rfl (Nat.le_of_ble_eq_true rfl) ⟨Nat.zero_le _, Nat.zero_le _⟩ (dk_at dkX6_read 8 rfl) ?_
    refine lv_if_ne (tgt := 23) C.1 C.2.1 (dk_at dkX6_read 9 rfl) (by decide) (fun c7 => ?_) (fun c7 => ?_)
    · have hf := (if_neg c7).symm.trans hf
      refine lv_iconst (v := 0) C.1 C.2.1 (dk_at dkX6_read 12 rfl) (by decide) ?_
      refine lv_istore (lv' := [(5, .int 0), (0, .ref (a_m 0)), (1, .int p1), (2, .int p2), (3, .int p3), (4, .int p4)]) C.1 C.2.1 (dk_at dkX6_read 13 rfl) hl (by decide) rfl (fun ls hl => ?_)
      have L10 : ∀ (K : Int32 → AI → Option (Int32 × AI × Int32 × AI)), (∀ (v8 : Int32) (before_9 : AI) (H : Heap) (locs : List Loc) (ls : Array Slot), Wd g A Z.heap (wM g a_m st now isKept hearers draft dHearers dWalls toldWinds tape taped pos frm sort value fault wrongAt landed landedIn stepped isThere isAt isNext landSum heardSum allWays ways drawn lanes sizes cells torn before_9) H locs → lv_has ls 11 [(0, .ref (a_m 0)), (1, .int p1), (2, .int p2), (3, .int p3), (4, .int p4)] → K v8 before_9 = some (res, st_o, torn_o, before_o) → W P l E rmX6_read Z Mi AR BE ME CO H locs 0 0 Q (F0 Mi 53 ls [])) → ∀ (n : Nat), ∀ (v8 : Int32) (before_9 : AI) (H : Heap) (locs : List Loc) (ls : Array Slot), Wd g A Z.heap (wM g a_m st now isKept hearers draft dHearers dWalls toldWinds tape taped pos frm sort value fault wrongAt landed landedIn stepped isThere isAt isNext landSum heardSum allWays ways drawn lanes sizes cells torn before_9) H locs → lv_has ls 11 [(5, .int v8), (0, .ref (a_m 0)), (1, .int p1), (2, .int p2), (3, .int p3), (4, .int p4)] → fX6_read_L26 st K n v8 before_9 = some (res, st_o, torn_o, before_o) → W P l E rmX6_read Z Mi AR BE ME CO H locs 0 0 Q (F0 Mi 26 ls []) := by
        intro K hKe n
        induction n with
        | zero => intro v8 before_9 H locs ls w hl hf; cases hf
        | succ n ih =>
          intro v8 before_9 H locs ls w hl hf
          rw [fX6_read_L26] at hf
          refine lv_iload C.1 C.2.1 (dk_at dkX6_read 14 rfl) (lv_at hl 0 rfl) ?_
          refine lv_bipush (v := 61) C.1 C.2.1 (dk_at dkX6_read 15 rfl) (by decide) ?_
          refine lv_icmp_ge (tgt := 53) C.1 C.2.1 (dk_at dkX6_read 16 rfl) (by decide) (fun c11 => ?_) (fun c11 => ?_)
          · have hf := (if_pos c11).symm.trans hf
            exact hKe v8 before_9 _ _ _ w (lv_sub hl [1, 2, 3, 4, 5] rfl) hf
          · have hf := (if_neg c11).symm.trans hf
            refine lv_aload_n C.1 C.2.1 (dk_at dkX6_read 17 rfl) rfl (lv_at hl 1 rfl) ?_
            refine r_get (v := .ref (a_m 17)) C hK w.1 (fun w h => List.mem_cons_of_mem _ (inlX6 w h)) 0 rfl rfl 31 (by decide) (List.mem_cons_of_mem _ (inr4 _ (List.mem_of_getElem? (i := 20) rfl))) rfl (dk_at dkX6_read 18 rfl) ?_
            refine lv_iload C.1 C.2.1 (dk_at dkX6_read 19 rfl) (lv_at hl 0 rfl) ?_
            refine lv_aload_n C.1 C.2.1 (dk_at dkX6_read 20 rfl) rfl (lv_at hl 1 rfl) ?_
            refine r_get (v := .ref (a_m 1)) C hK w.1 (fun w h => List.mem_cons_of_mem _ (inlX6 w h)) 0 rfl rfl 0 (by decide) (List.mem_cons_of_mem _ (inr4 _ (List.mem_of_getElem? (i := 4) rfl))) rfl (dk_at dkX6_read 21 rfl) ?_
            refine lv_iload C.1 C.2.1 (dk_at dkX6_read 22 rfl) (lv_at hl 0 rfl) ?_
            obtain ⟨h12, hf⟩ := gd_at hf
            refine r_iald (k := v8.toNatClampNeg) (f := st) C hK w.1 1 rfl h12 rfl (dk_at dkX6_read 23 rfl) ?_
            refine lv_topi (fun x13 ex13 => ?_)
            have hf := nm_at ex13 hf
            obtain ⟨h14, hf⟩ := gd_at hf
            refine r_iast (k := v8.toNatClampNeg) (f := before_9) C hK w 17 rfl h14 rfl (dk_at dkX6_read 24 rfl) (fun H locs w => ?_)
            obtain ⟨before_15, ebefore_15⟩ : ∃ z : AI, z = upd before_9 v8.toNatClampNeg x13 := ⟨_, rfl⟩
            have hf := nm_at ebefore_15 hf
            have w : Wd g A Z.heap (wM g a_m st now isKept hearers draft dHearers dWalls toldWinds tape taped pos frm sort value fault wrongAt landed landedIn stepped isThere isAt isNext landSum heardSum allWays ways drawn lanes sizes cells torn before_15) H locs := by rw [ebefore_15]; exact w
            obtain ⟨x16, ex16⟩ : ∃ z : Int32, z = v8 + 1 := ⟨_, rfl⟩
            have hf := nm_at ex16 hf
            refine lv_iinc (v := x16) (lv' := [(5, .int x16), (0, .ref (a_m 0)), (1, .int p1), (2, .int p2), (3, .int p3), (4, .int p4)]) C.1 C.2.1 (dk_at dkX6_read 25 rfl) hl (k := 0) rfl (by rw [ex16]; rfl) (by decide) rfl (fun ls hl => ?_)
            refine lv_goto (tgt := 26) C.1 C.2.1 (dk_at dkX6_read 26 rfl) (by decide) ?_
            exact ih x16 before_15 _ _ _ w (lv_sub hl [0, 1, 2, 3, 4, 5] rfl) hf
      refine L10 _ ?_ 4096 0 before _ _ _ w (lv_sub hl [0, 1, 2, 3, 4, 5] rfl) hf
      clear hf
      intro v8 before_9 H locs ls w hl hf
      refine lv_iconst (v := 0) C.1 C.2.1 (dk_at dkX6_read 27 rfl) (by decide) ?_
      refine lv_istore (lv' := [(5, .int 0), (0, .ref (a_m 0)), (1, .int p1), (2, .int p2), (3, .int p3), (4, .int p4)]) C.1 C.2.1 (dk_at dkX6_read 28 rfl) hl (by decide) rfl (fun ls hl => ?_)
      refine lv_iconst (v := 0) C.1 C.2.1 (dk_at dkX6_read 29 rfl) (by decide) ?_
      refine lv_istore (lv' := [(6, .int 0), (5, .int 0), (0, .ref (a_m 0)), (1, .int p1), (2, .int p2), (3, .int p3), (4, .int p4)]) C.1 C.2.1 (dk_at dkX6_read 30 rfl) hl (by decide) rfl (fun ls hl => ?_)
      refine lv_iconst (v := 0) C.1 C.2.1 (dk_at dkX6_read 31 rfl) (by decide) ?_
      refine lv_istore (lv' := [(7, .int 0), (6, .int 0), (5, .int 0), (0, .ref (a_m 0)), (1, .int p1), (2, .int p2), (3, .int p3), (4, .int p4)]) C.1 C.2.1 (dk_at dkX6_read 32 rfl) hl (by decide) rfl (fun ls hl => ?_)
      have L21 : ∀ (K : Int32 → Int32 → Int32 → AI → Option (Int32 × AI × Int32 × AI)), (∀ (v17 : Int32) (v18 : Int32) (v19 : Int32) (st_20 : AI) (H : Heap) (locs : List Loc) (ls : Array Slot), Wd g A Z.heap (wM g a_m st_20 now isKept hearers draft dHearers dWalls toldWinds tape taped pos frm sort value fault wrongAt landed landedIn stepped isThere isAt isNext landSum heardSum allWays ways drawn lanes sizes cells torn before_9) H locs → lv_has ls 11 [(6, .int v18), (5, .int v19), (0, .ref (a_m 0))] → K v17 v18 v19 st_20 = some (res, st_o, torn_o, before_o) → W P l E rmX6_read Z Mi AR BE ME CO H locs 0 0 Q (F0 Mi 259 ls [])) → ∀ (n : Nat), ∀ (v17 : Int32) (v18 : Int32) (v19 : Int32) (st_20 : AI) (H : Heap) (locs : List Loc) (ls : Array Slot), Wd g A Z.heap (wM g a_m st_20 now isKept hearers draft dHearers dWalls toldWinds tape taped pos frm sort value fault wrongAt landed landedIn stepped isThere isAt isNext landSum heardSum allWays ways drawn lanes sizes cells torn before_9) H locs → lv_has ls 11 [(7, .int v17), (6, .int v18), (5, .int v19), (0, .ref (a_m 0)), (1, .int p1), (2, .int p2), (3, .int p3), (4, .int p4)] → fX6_read_L62 lanes sizes cells torn p1 p2 p3 p4 before_9 K n v17 v18 v19 st_20 = some (res, st_o, torn_o, before_o) → W P l E rmX6_read Z Mi AR BE ME CO H locs 0 0 Q (F0 Mi 62 ls []) := by
        intro K hKe n
        induction n with
        | zero => intro v17 v18 v19 st_20 H locs ls w hl hf; cases hf
        | succ n ih =>
          intro v17 v18 v19 st_20 H locs ls w hl hf
          rw [fX6_read_L62] at hf
          refine lv_iload C.1 C.2.1 (dk_at dkX6_read 33 rfl) (lv_at hl 0 rfl) ?_
          refine lv_iload C.1 C.2.1 (dk_at dkX6_read 34 rfl) (lv_at hl 7 rfl) ?_
          refine lv_icmp_ge (tgt := 259) C.1 C.2.1 (dk_at dkX6_read 35 rfl) (by decide) (fun c22 => ?_) (fun c22 => ?_)
          · have hf := (if_pos c22).symm.trans hf
            exact hKe v17 v18 v19 st_20 _ _ _ w (lv_sub hl [1, 2, 3] rfl) hf
          · have hf := (if_neg c22).symm.trans hf
            refine lv_iload C.1 C.2.1 (dk_at dkX6_read 36 rfl) (lv_at hl 2 rfl) ?_
            refine lv_if_ne (tgt := 259) C.1 C.2.1 (dk_at dkX6_read 37 rfl) (by decide) (fun c23 => ?_) (fun c23 => ?_)
            · have hf := (if_neg c23).symm.trans hf
              exact hKe v17 v18 v19 st_20 _ _ _ w (lv_sub hl [1, 2, 3] rfl) hf
            · have hf := (if_pos c23).symm.trans hf
              refine lv_iconst (v := 0) C.1 C.2.1 (dk_at dkX6_read 38 rfl) (by decide) ?_
              refine lv_istore (lv' := [(8, .int 0), (7, .int v17), (6, .int v18), (5, .int v19), (0, .ref (a_m 0)), (1, .int p1), (2, .int p2), (3, .int p3), (4, .int p4)]) C.1 C.2.1 (dk_at dkX6_read 39 rfl) hl (by decide) rfl (fun ls hl => ?_)
              have L26 : ∀ (K : Int32 → Int32 → Option (Int32 × AI × Int32 × AI)), (∀ (v24 : Int32) (v25 : Int32) (H : Heap) (locs : List Loc) (ls : Array Slot), Wd g A Z.heap (wM g a_m st_20 now isKept hearers draft dHearers dWalls toldWinds tape taped pos frm sort value fault wrongAt landed landedIn stepped isThere isAt isNext landSum heardSum allWays ways drawn lanes sizes cells torn before_9) H locs → lv_has ls 11 [(7, .int v17), (6, .int v18), (5, .int v25), (0, .ref (a_m 0)), (1, .int p1), (2, .int p2), (3, .int p3), (4, .int p4)] → K v24 v25 = some (res, st_o, torn_o, before_o) → W P l E rmX6_read Z Mi AR BE ME CO H locs 0 0 Q (F0 Mi 164 ls [])) → ∀ (n : Nat), ∀ (v24 : Int32) (v25 : Int32) (H : Heap) (locs : List Loc) (ls : Array Slot), Wd g A Z.heap (wM g a_m st_20 now isKept hearers draft dHearers dWalls toldWinds tape taped pos frm sort value fault wrongAt landed landedIn stepped isThere isAt isNext landSum heardSum allWays ways drawn lanes sizes cells torn before_9) H locs → lv_has ls 11 [(8, .int v24), (7, .int v17), (6, .int v18), (5, .int v25), (0, .ref (a_m 0)), (1, .int p1), (2, .int p2), (3, .int p3), (4, .int p4)] → fX6_read_L77 lanes sizes p1 p2 p3 v17 K n v24 v25 = some (res, st_o, torn_o, before_o) → W P l E rmX6_read Z Mi AR BE ME CO H locs 0 0 Q (F0 Mi 77 ls []) := by
                intro K hKe n
                induction n with
                | zero => intro v24 v25 H locs ls w hl hf; cases hf
                | succ n ih =>
                  intro v24 v25 H locs ls w hl hf
                  rw [fX6_read_L77] at hf
                  refine lv_iload C.1 C.2.1 (dk_at dkX6_read 40 rfl) (lv_at hl 0 rfl) ?_
                  refine lv_iconst (v := 3) C.1 C.2.1 (dk_at dkX6_read 41 rfl) (by decide) ?_
                  refine lv_icmp_ge (tgt := 164) C.1 C.2.1 (dk_at dkX6_read 42 rfl) (by decide) (fun c27 => ?_) (fun c27 => ?_)
                  · have hf := (if_pos c27).symm.trans hf
                    exact hKe v24 v25 _ _ _ w (lv_sub hl [1, 2, 3, 4, 5, 6, 7, 8] rfl) hf
                  · have hf := (if_neg c27).symm.trans hf
                    refine lv_iload C.1 C.2.1 (dk_at dkX6_read 43 rfl) (lv_at hl 3 rfl) ?_
                    refine lv_if_ne (tgt := 164) C.1 C.2.1 (dk_at dkX6_read 44 rfl) (by decide) (fun c28 => ?_) (fun c28 => ?_)
                    · have hf := (if_neg c28).symm.trans hf
                      exact hKe v24 v25 _ _ _ w (lv_sub hl [1, 2, 3, 4, 5, 6, 7, 8] rfl) hf
                    · have hf := (if_pos c28).symm.trans hf
                      refine lv_iload_n C.1 C.2.1 (dk_at dkX6_read 45 rfl) rfl (lv_at hl 7 rfl) ?_
                      refine lv_i2l C.1 C.2.1 (dk_at dkX6_read 46 rfl) rfl ?_
                      refine lv_topl (fun x29 ex29 => ?_)
                      have hf := nm_at ex29 hf
                      refine lv_iconst (v := 3) C.1 C.2.1 (dk_at dkX6_read 47 rfl) (by decide) ?_
                      refine lv_iload C.1 C.2.1 (dk_at dkX6_read 48 rfl) (lv_at hl 1 rfl) ?_
                      refine lv_imul C.1 C.2.1 (dk_at dkX6_read 49 rfl) ?_
                      refine lv_i2l C.1 C.2.1 (dk_at dkX6_read 50 rfl) rfl ?_
                      refine lv_ladd C.1 C.2.1 (dk_at dkX6_read 51 rfl) ?_
                      refine lv_topl (fun x30 ex30 => ?_)
                      have hf := nm_at ex30 hf
                      refine lv_iload C.1 C.2.1 (dk_at dkX6_read 52 rfl) (lv_at hl 0 rfl) ?_
                      refine lv_i2l C.1 C.2.1 (dk_at dkX6_read 53 rfl) rfl ?_
                      refine lv_ladd C.1 C.2.1 (dk_at dkX6_read 54 rfl) ?_
                      refine lv_topl (fun x31 ex31 => ?_)
                      have hf := nm_at ex31 hf
                      refine lv_lstore (lv' := [(9, .long x31), (8, .int v24), (7, .int v17), (6, .int v18), (5, .int v25), (0, .ref (a_m 0)), (1, .int p1), (2, .int p2), (3, .int p3), (4, .int p4)]) C.1 C.2.1 (dk_at dkX6_read 55 rfl) hl (by decide) rfl (fun ls hl => ?_)
                      refine lv_aload_n C.1 C.2.1 (dk_at dkX6_read 56 rfl) rfl (lv_at hl 5 rfl) ?_
                      refine r_get (v := .ref (a_m 14)) C hK w.1 (fun w h => List.mem_cons_of_mem _ (inlX6 w h)) 0 rfl rfl 27 (by decide) (List.mem_cons_of_mem _ (inr4 _ (List.mem_of_getElem? (i := 17) rfl))) rfl (dk_at dkX6_read 57 rfl) ?_
                      refine lv_iload_n C.1 C.2.1 (dk_at dkX6_read 58 rfl) rfl (lv_at hl 6 rfl) ?_
                      obtain ⟨h32, hf⟩ := gd_at hf
                      refine r_iald (k := p1.toNatClampNeg) (f := lanes) C hK w.1 14 rfl h32 rfl (dk_at dkX6_read 59 rfl) ?_
                      refine lv_topi (fun x33 ex33 => ?_)
                      have hf := nm_at ex33 hf
                      refine lv_bipush (v := (-4)) C.1 C.2.1 (dk_at dkX6_read 60 rfl) (by decide) ?_
                      refine lv_icmp_ne (tgt := 117) C.1 C.2.1 (dk_at dkX6_read 61 rfl) (by decide) (fun c34 => ?_) (fun c34 => ?_)
                      · have hf := (if_neg c34).symm.trans hf
                        refine lv_aload_n C.1 C.2.1 (dk_at dkX6_read 64 rfl) rfl (lv_at hl 5 rfl) ?_
                        refine r_get (v := .ref (a_m 14)) C hK w.1 (fun w h => List.mem_cons_of_mem _ (inlX6 w h)) 0 rfl rfl 27 (by decide) (List.mem_cons_of_mem _ (inr4 _ (List.mem_of_getElem? (i := 17) rfl))) rfl (dk_at dkX6_read 65 rfl) ?_
                        refine lv_iload_n C.1 C.2.1 (dk_at dkX6_read 66 rfl) rfl (lv_at hl 6 rfl) ?_
                        obtain ⟨h35, hf⟩ := gd_at hf
                        refine r_iald (k := p1.toNatClampNeg) (f := lanes) C hK w.1 14 rfl h35 rfl (dk_at dkX6_read 67 rfl) ?_
                        refine lv_topi (fun x36 ex36 => ?_)
                        have hf := nm_at ex36 hf
                        refine lv_iload_n C.1 C.2.1 (dk_at dkX6_read 68 rfl) rfl (lv_at hl 7 rfl) ?_
                        refine lv_icmp_eq (tgt := 131) C.1 C.2.1 (dk_at dkX6_read 69 rfl) (by decide) (fun c37 => ?_) (fun c37 => ?_)
                        · have hf := (if_pos c37).symm.trans hf
                          refine lv_lload C.1 C.2.1 (dk_at dkX6_read 72 rfl) (lv_at hl 0 rfl) ?_
                          refine lv_lconst (v := 0) C.1 C.2.1 (dk_at dkX6_read 73 rfl) (by decide) ?_
                          refine W.lcmp C.1 C.2.1 (dk_at dkX6_read 74 rfl) ?_
                          refine lv_if_lt (tgt := 151) C.1 C.2.1 (dk_at dkX6_read 75 rfl) (by decide) (fun c38 => ?_) (fun c38 => ?_)
                          · have hf := (if_pos c38).symm.trans hf
                            refine lv_iconst (v := 2) C.1 C.2.1 (dk_at dkX6_read 84 rfl) (by decide) ?_
                            refine lv_goto (tgt := 156) C.1 C.2.1 (dk_at dkX6_read 85 rfl) (by decide) ?_
                            refine lv_istore (lv' := [(5, .int 2), (9, .long x31), (8, .int v24), (7, .int v17), (6, .int v18), (0, .ref (a_m 0)), (1, .int p1), (2, .int p2), (3, .int p3), (4, .int p4)]) C.1 C.2.1 (dk_at dkX6_read 87 rfl) hl (by decide) rfl (fun ls hl => ?_)
                            obtain ⟨x39, ex39⟩ : ∃ z : Int32, z = v24 + 1 := ⟨_, rfl⟩
                            have hf := nm_at ex39 hf
                            refine lv_iinc (v := x39) (lv' := [(8, .int x39), (5, .int 2), (9, .long x31), (7, .int v17), (6, .int v18), (0, .ref (a_m 0)), (1, .int p1), (2, .int p2), (3, .int p3), (4, .int p4)]) C.1 C.2.1 (dk_at dkX6_read 88 rfl) hl (k := 2) rfl (by rw [ex39]; rfl) (by decide) rfl (fun ls hl => ?_)
                            refine lv_goto (tgt := 77) C.1 C.2.1 (dk_at dkX6_read 89 rfl) (by decide) ?_
                            exact ih x39 2 _ _ _ w (lv_sub hl [0, 3, 4, 1, 5, 6, 7, 8, 9] rfl) hf
                          · have hf := (if_neg c38).symm.trans hf
                            refine lv_lload C.1 C.2.1 (dk_at dkX6_read 76 rfl) (lv_at hl 0 rfl) ?_
                            refine lv_aload_n C.1 C.2.1 (dk_at dkX6_read 77 rfl) rfl (lv_at hl 5 rfl) ?_
                            refine r_get (v := .ref (a_m 15)) C hK w.1 (fun w h => List.mem_cons_of_mem _ (inlX6 w h)) 0 rfl rfl 28 (by decide) (List.mem_cons_of_mem _ (inr4 _ (List.mem_of_getElem? (i := 18) rfl))) rfl (dk_at dkX6_read 78 rfl) ?_
                            refine lv_iload_n C.1 C.2.1 (dk_at dkX6_read 79 rfl) rfl (lv_at hl 6 rfl) ?_
                            obtain ⟨h40, hf⟩ := gd_at hf
                            refine r_iald (k := p1.toNatClampNeg) (f := sizes) C hK w.1 15 rfl h40 rfl (dk_at dkX6_read 80 rfl) ?_
                            refine lv_i2l C.1 C.2.1 (dk_at dkX6_read 81 rfl) rfl ?_
                            refine W.lcmp C.1 C.2.1 (dk_at dkX6_read 82 rfl) ?_
                            refine lv_if_lt (tgt := 155) C.1 C.2.1 (dk_at dkX6_read 83 rfl) (by decide) (fun c41 => ?_) (fun c41 => ?_)
                            · have hf := (if_pos c41).symm.trans hf
                              refine lv_iconst (v := 0) C.1 C.2.1 (dk_at dkX6_read 86 rfl) (by decide) ?_
                              refine lv_istore (lv' := [(5, .int 0), (9, .long x31), (8, .int v24), (7, .int v17), (6, .int v18), (0, .ref (a_m 0)), (1, .int p1), (2, .int p2), (3, .int p3), (4, .int p4)]) C.1 C.2.1 (dk_at dkX6_read 87 rfl) hl (by decide) rfl (fun ls hl => ?_)
                              obtain ⟨x42, ex42⟩ : ∃ z : Int32, z = v24 + 1 := ⟨_, rfl⟩
                              have hf := nm_at ex42 hf
                              refine lv_iinc (v := x42) (lv' := [(8, .int x42), (5, .int 0), (9, .long x31), (7, .int v17), (6, .int v18), (0, .ref (a_m 0)), (1, .int p1), (2, .int p2), (3, .int p3), (4, .int p4)]) C.1 C.2.1 (dk_at dkX6_read 88 rfl) hl (k := 2) rfl (by rw [ex42]; rfl) (by decide) rfl (fun ls hl => ?_)
                              refine lv_goto (tgt := 77) C.1 C.2.1 (dk_at dkX6_read 89 rfl) (by decide) ?_
                              exact ih x42 0 _ _ _ w (lv_sub hl [0, 3, 4, 1, 5, 6, 7, 8, 9] rfl) hf
                            · have hf := (if_neg c41).symm.trans hf
                              refine lv_iconst (v := 2) C.1 C.2.1 (dk_at dkX6_read 84 rfl) (by decide) ?_
                              refine lv_goto (tgt := 156) C.1 C.2.1 (dk_at dkX6_read 85 rfl) (by decide) ?_
                              refine lv_istore (lv' := [(5, .int 2), (9, .long x31), (8, .int v24), (7, .int v17), (6, .int v18), (0, .ref (a_m 0)), (1, .int p1), (2, .int p2), (3, .int p3), (4, .int p4)]) C.1 C.2.1 (dk_at dkX6_read 87 rfl) hl (by decide) rfl (fun ls hl => ?_)
                              obtain ⟨x43, ex43⟩ : ∃ z : Int32, z = v24 + 1 := ⟨_, rfl⟩
                              have hf := nm_at ex43 hf
                              refine lv_iinc (v := x43) (lv' := [(8, .int x43), (5, .int 2), (9, .long x31), (7, .int v17), (6, .int v18), (0, .ref (a_m 0)), (1, .int p1), (2, .int p2), (3, .int p3), (4, .int p4)]) C.1 C.2.1 (dk_at dkX6_read 88 rfl) hl (k := 2) rfl (by rw [ex43]; rfl) (by decide) rfl (fun ls hl => ?_)
                              refine lv_goto (tgt := 77) C.1 C.2.1 (dk_at dkX6_read 89 rfl) (by decide) ?_
                              exact ih x43 2 _ _ _ w (lv_sub hl [0, 3, 4, 1, 5, 6, 7, 8, 9] rfl) hf
                        · have hf := (if_neg c37).symm.trans hf
                          refine lv_iconst (v := 3) C.1 C.2.1 (dk_at dkX6_read 70 rfl) (by decide) ?_
                          refine lv_goto (tgt := 156) C.1 C.2.1 (dk_at dkX6_read 71 rfl) (by decide) ?_
                          refine lv_istore (lv' := [(5, .int 3), (9, .long x31), (8, .int v24), (7, .int v17), (6, .int v18), (0, .ref (a_m 0)), (1, .int p1), (2, .int p2), (3, .int p3), (4, .int p4)]) C.1 C.2.1 (dk_at dkX6_read 87 rfl) hl (by decide) rfl (fun ls hl => ?_)
                          obtain ⟨x44, ex44⟩ : ∃ z : Int32, z = v24 + 1 := ⟨_, rfl⟩
                          have hf := nm_at ex44 hf
                          refine lv_iinc (v := x44) (lv' := [(8, .int x44), (5, .int 3), (9, .long x31), (7, .int v17), (6, .int v18), (0, .ref (a_m 0)), (1, .int p1), (2, .int p2), (3, .int p3), (4, .int p4)]) C.1 C.2.1 (dk_at dkX6_read 88 rfl) hl (k := 2) rfl (by rw [ex44]; rfl) (by decide) rfl (fun ls hl => ?_)
                          refine lv_goto (tgt := 77) C.1 C.2.1 (dk_at dkX6_read 89 rfl) (by decide) ?_
                          exact ih x44 3 _ _ _ w (lv_sub hl [0, 3, 4, 1, 5, 6, 7, 8, 9] rfl) hf
                      · have hf := (if_pos c34).symm.trans hf
                        refine lv_iconst (v := 1) C.1 C.2.1 (dk_at dkX6_read 62 rfl) (by decide) ?_
                        refine lv_goto (tgt := 156) C.1 C.2.1 (dk_at dkX6_read 63 rfl) (by decide) ?_
                        refine lv_istore (lv' := [(5, .int 1), (9, .long x31), (8, .int v24), (7, .int v17), (6, .int v18), (0, .ref (a_m 0)), (1, .int p1), (2, .int p2), (3, .int p3), (4, .int p4)]) C.1 C.2.1 (dk_at dkX6_read 87 rfl) hl (by decide) rfl (fun ls hl => ?_)
                        obtain ⟨x45, ex45⟩ : ∃ z : Int32, z = v24 + 1 := ⟨_, rfl⟩
                        have hf := nm_at ex45 hf
                        refine lv_iinc (v := x45) (lv' := [(8, .int x45), (5, .int 1), (9, .long x31), (7, .int v17), (6, .int v18), (0, .ref (a_m 0)), (1, .int p1), (2, .int p2), (3, .int p3), (4, .int p4)]) C.1 C.2.1 (dk_at dkX6_read 88 rfl) hl (k := 2) rfl (by rw [ex45]; rfl) (by decide) rfl (fun ls hl => ?_)
                        refine lv_goto (tgt := 77) C.1 C.2.1 (dk_at dkX6_read 89 rfl) (by decide) ?_
                        exact ih x45 1 _ _ _ w (lv_sub hl [0, 3, 4, 1, 5, 6, 7, 8, 9] rfl) hf
              refine L26 _ ?_ 4096 0 v19 _ _ _ w (lv_sub hl [0, 1, 2, 3, 4, 5, 6, 7, 8] rfl) hf
              clear hf
              intro v24 v25 H locs ls w hl hf
              refine lv_iload C.1 C.2.1 (dk_at dkX6_read 90 rfl) (lv_at hl 2 rfl) ?_
              refine lv_if_ne (tgt := 253) C.1 C.2.1 (dk_at dkX6_read 91 rfl) (by decide) (fun c46 => ?_) (fun c46 => ?_)
              · have hf := (if_neg c46).symm.trans hf
                obtain ⟨x47, ex47⟩ : ∃ z : Int32, z = v17 + 1 := ⟨_, rfl⟩
                have hf := nm_at ex47 hf
                refine lv_iinc (v := x47) (lv' := [(7, .int x47), (6, .int v18), (5, .int v25), (0, .ref (a_m 0)), (1, .int p1), (2, .int p2), (3, .int p3), (4, .int p4)]) C.1 C.2.1 (dk_at dkX6_read 141 rfl) hl (k := 0) rfl (by rw [ex47]; rfl) (by decide) rfl (fun ls hl => ?_)
                refine lv_goto (tgt := 62) C.1 C.2.1 (dk_at dkX6_read 142 rfl) (by decide) ?_
                exact ih x47 v18 v25 st_20 _ _ _ w (lv_sub hl [0, 1, 2, 3, 4, 5, 6, 7] rfl) hf
              · have hf := (if_pos c46).symm.trans hf
                refine lv_bipush (v := 40) C.1 C.2.1 (dk_at dkX6_read 92 rfl) (by decide) ?_
                refine lv_iload_n C.1 C.2.1 (dk_at dkX6_read 93 rfl) rfl (lv_at hl 4 rfl) ?_
                refine lv_imul C.1 C.2.1 (dk_at dkX6_read 94 rfl) ?_
                refine lv_topi (fun x48 ex48 => ?_)
                have hf := nm_at ex48 hf
                refine lv_iload_n C.1 C.2.1 (dk_at dkX6_read 95 rfl) rfl (lv_at hl 6 rfl) ?_
                refine lv_iadd C.1 C.2.1 (dk_at dkX6_read 96 rfl) ?_
                refine lv_topi (fun x49 ex49 => ?_)
                have hf := nm_at ex49 hf
                refine lv_iconst (v := 3) C.1 C.2.1 (dk_at dkX6_read 97 rfl) (by decide) ?_
                refine lv_iload C.1 C.2.1 (dk_at dkX6_read 98 rfl) (lv_at hl 0 rfl) ?_
                refine lv_imul C.1 C.2.1 (dk_at dkX6_read 99 rfl) ?_
                refine lv_iadd C.1 C.2.1 (dk_at dkX6_read 100 rfl) ?_
                refine lv_topi (fun x50 ex50 => ?_)
                have hf := nm_at ex50 hf
                refine lv_istore (lv' := [(8, .int x50), (7, .int v17), (6, .int v18), (5, .int v25), (0, .ref (a_m 0)), (1, .int p1), (2, .int p2), (3, .int p3), (4, .int p4)]) C.1 C.2.1 (dk_at dkX6_read 101 rfl) hl (by decide) rfl (fun ls hl => ?_)
                refine lv_aload_n C.1 C.2.1 (dk_at dkX6_read 102 rfl) rfl (lv_at hl 4 rfl) ?_
                refine lv_aload_n C.1 C.2.1 (dk_at dkX6_read 103 rfl) rfl (lv_at hl 4 rfl) ?_
                refine r_get (v := .ref (a_m 16)) C hK w.1 (fun w h => List.mem_cons_of_mem _ (inlX6 w h)) 0 rfl rfl 29 (by decide) (List.mem_cons_of_mem _ (inr4 _ (List.mem_of_getElem? (i := 19) rfl))) rfl (dk_at dkX6_read 104 rfl) ?_
                refine lv_iload C.1 C.2.1 (dk_at dkX6_read 105 rfl) (lv_at hl 0 rfl) ?_
                obtain ⟨h51, hf⟩ := gd_at hf
                refine r_iald (k := x50.toNatClampNeg) (f := cells) C hK w.1 16 rfl h51 rfl (dk_at dkX6_read 106 rfl) ?_
                refine lv_topi (fun x52 ex52 => ?_)
                have hf := nm_at ex52 hf
                refine lv_aload_n C.1 C.2.1 (dk_at dkX6_read 107 rfl) rfl (lv_at hl 4 rfl) ?_
                refine r_get (v := .ref (a_m 16)) C hK w.1 (fun w h => List.mem_cons_of_mem _ (inlX6 w h)) 0 rfl rfl 29 (by decide) (List.mem_cons_of_mem _ (inr4 _ (List.mem_of_getElem? (i := 19) rfl))) rfl (dk_at dkX6_read 108 rfl) ?_
                refine lv_iload C.1 C.2.1 (dk_at dkX6_read 109 rfl) (lv_at hl 0 rfl) ?_
                refine lv_iconst (v := 1) C.1 C.2.1 (dk_at dkX6_read 110 rfl) (by decide) ?_
                refine lv_iadd C.1 C.2.1 (dk_at dkX6_read 111 rfl) ?_
                refine lv_topi (fun x53 ex53 => ?_)
                have hf := nm_at ex53 hf
                obtain ⟨h54, hf⟩ := gd_at hf
                refine r_iald (k := x53.toNatClampNeg) (f := cells) C hK w.1 16 rfl h54 rfl (dk_at dkX6_read 112 rfl) ?_
                refine lv_topi (fun x55 ex55 => ?_)
                have hf := nm_at ex55 hf
                refine lv_aload_n C.1 C.2.1 (dk_at dkX6_read 113 rfl) rfl (lv_at hl 4 rfl) ?_
                refine r_get (v := .ref (a_m 16)) C hK w.1 (fun w h => List.mem_cons_of_mem _ (inlX6 w h)) 0 rfl rfl 29 (by decide) (List.mem_cons_of_mem _ (inr4 _ (List.mem_of_getElem? (i := 19) rfl))) rfl (dk_at dkX6_read 114 rfl) ?_
                refine lv_iload C.1 C.2.1 (dk_at dkX6_read 115 rfl) (lv_at hl 0 rfl) ?_
                refine lv_iconst (v := 2) C.1 C.2.1 (dk_at dkX6_read 116 rfl) (by decide) ?_
                refine lv_iadd C.1 C.2.1 (dk_at dkX6_read 117 rfl) ?_
                refine lv_topi (fun x56 ex56 => ?_)
                have hf := nm_at ex56 hf
                obtain ⟨h57, hf⟩ := gd_at hf
                refine r_iald (k := x56.toNatClampNeg) (f := cells) C hK w.1 16 rfl h57 rfl (dk_at dkX6_read 118 rfl) ?_
                refine lv_topi (fun x58 ex58 => ?_)
                have hf := nm_at ex58 hf
                obtain ⟨r59, st_60, hq61, hf⟩ := bd2_at hf
                refine r_rwi (As := [.int x52, .int x55, .int x58]) (rest := []) (wr := []) (ws' := wM g a_m st_60 now isKept hearers draft dHearers dWalls toldWinds tape taped pos frm sort value fault wrongAt landed landedIn stepped isThere isAt isNext landSum heardSum allWays ways drawn lanes sizes cells torn before_9) C (kX6_say l g _ a_m st_20 now isKept hearers draft dHearers dWalls toldWinds tape taped pos frm sort value fault wrongAt landed landedIn stepped isThere isAt isNext landSum heardSum allWays ways drawn lanes sizes cells torn before_9 x52 x55 x58 r59 st_60 hq61) (cwV0 C (inr41 _ (List.mem_of_getElem? (i := 17) rfl)) mwX6_say hdX6_say ⟨Nat.le_of_ble_eq_true rfl, Nat.le_of_ble_eq_true rfl⟩) hK w hA [0, 1, 2, 3, 4, 5, 6, 7, 8, 9, 10, 11, 12, 13, 14, 15, 16, 17] [] [0, 1, 2, 3, 4, 5, 6, 7, 8, 9, 10, 11, 12, 13, 14, 15, 16, 17] (by decide) rfl rfl (by decide) (by decide) rfl (by decide) rfl rfl rfl hl.1 rfl (Nat.le_of_ble_eq_true rfl) ⟨Nat.zero_le _, Nat.zero_le _⟩ (dk_at dkX6_read 119 rfl) (fun H locs w => ?_)
                refine lv_if_ge (tgt := 250) C.1 C.2.1 (dk_at dkX6_read 120 rfl) (by decide) (fun c62 => ?_) (fun c62 => ?_)
                · have hf := (if_pos c62).symm.trans hf
                  obtain ⟨x63, ex63⟩ : ∃ z : Int32, z = v18 + 1 := ⟨_, rfl⟩
                  have hf := nm_at ex63 hf
                  refine lv_iinc (v := x63) (lv' := [(6, .int x63), (8, .int x50), (7, .int v17), (5, .int v25), (0, .ref (a_m 0)), (1, .int p1), (2, .int p2), (3, .int p3), (4, .int p4)]) C.1 C.2.1 (dk_at dkX6_read 140 rfl) hl (k := 2) rfl (by rw [ex63]; rfl) (by decide) rfl (fun ls hl => ?_)
                  obtain ⟨x64, ex64⟩ : ∃ z : Int32, z = v17 + 1 := ⟨_, rfl⟩
                  have hf := nm_at ex64 hf
                  refine lv_iinc (v := x64) (lv' := [(7, .int x64), (6, .int x63), (8, .int x50), (5, .int v25), (0, .ref (a_m 0)), (1, .int p1), (2, .int p2), (3, .int p3), (4, .int p4)]) C.1 C.2.1 (dk_at dkX6_read 141 rfl) hl (k := 2) rfl (by rw [ex64]; rfl) (by decide) rfl (fun ls hl => ?_)
                  refine lv_goto (tgt := 62) C.1 C.2.1 (dk_at dkX6_read 142 rfl) (by decide) ?_
                  exact ih x64 x63 v25 st_60 _ _ _ w (lv_sub hl [0, 1, 3, 4, 5, 6, 7, 8] rfl) hf
                · have hf := (if_neg c62).symm.trans hf
                  refine lv_iconst (v := 0) C.1 C.2.1 (dk_at dkX6_read 121 rfl) (by decide) ?_
                  refine lv_istore (lv' := [(9, .int 0), (8, .int x50), (7, .int v17), (6, .int v18), (5, .int v25), (0, .ref (a_m 0)), (1, .int p1), (2, .int p2), (3, .int p3), (4, .int p4)]) C.1 C.2.1 (dk_at dkX6_read 122 rfl) hl (by decide) rfl (fun ls hl => ?_)
                  have L67 : ∀ (K : Int32 → AI → Option (Int32 × AI × Int32 × AI)), (∀ (v65 : Int32) (st_66 : AI) (H : Heap) (locs : List Loc) (ls : Array Slot), Wd g A Z.heap (wM g a_m st_66 now isKept hearers draft dHearers dWalls toldWinds tape taped pos frm sort value fault wrongAt landed landedIn stepped isThere isAt isNext landSum heardSum allWays ways drawn lanes sizes cells torn before_9) H locs → lv_has ls 11 [(7, .int v17)] → K v65 st_66 = some (res, st_o, torn_o, before_o) → W P l E rmX6_read Z Mi AR BE ME CO H locs 0 0 Q (F0 Mi 244 ls [])) → ∀ (n : Nat), ∀ (v65 : Int32) (st_66 : AI) (H : Heap) (locs : List Loc) (ls : Array Slot), Wd g A Z.heap (wM g a_m st_66 now isKept hearers draft dHearers dWalls toldWinds tape taped pos frm sort value fault wrongAt landed landedIn stepped isThere isAt isNext landSum heardSum allWays ways drawn lanes sizes cells torn before_9) H locs → lv_has ls 11 [(9, .int v65), (7, .int v17), (0, .ref (a_m 0))] → fX6_read_L217 before_9 K n v65 st_66 = some (res, st_o, torn_o, before_o) → W P l E rmX6_read Z Mi AR BE ME CO H locs 0 0 Q (F0 Mi 217 ls []) := by
                    intro K hKe n
                    induction n with
                    | zero => intro v65 st_66 H locs ls w hl hf; cases hf
                    | succ n ih =>
                      intro v65 st_66 H locs ls w hl hf
                      rw [fX6_read_L217] at hf
                      refine lv_iload C.1 C.2.1 (dk_at dkX6_read 123 rfl) (lv_at hl 0 rfl) ?_
                      refine lv_bipush (v := 61) C.1 C.2.1 (dk_at dkX6_read 124 rfl) (by decide) ?_
                      refine lv_icmp_ge (tgt := 244) C.1 C.2.1 (dk_at dkX6_read 125 rfl) (by decide) (fun c68 => ?_) (fun c68 => ?_)
                      · have hf := (if_pos c68).symm.trans hf
                        exact hKe v65 st_66 _ _ _ w (lv_sub hl [1] rfl) hf
                      · have hf := (if_neg c68).symm.trans hf
                        refine lv_aload_n C.1 C.2.1 (dk_at dkX6_read 126 rfl) rfl (lv_at hl 2 rfl) ?_
                        refine r_get (v := .ref (a_m 1)) C hK w.1 (fun w h => List.mem_cons_of_mem _ (inlX6 w h)) 0 rfl rfl 0 (by decide) (List.mem_cons_of_mem _ (inr4 _ (List.mem_of_getElem? (i := 4) rfl))) rfl (dk_at dkX6_read 127 rfl) ?_
                        refine lv_iload C.1 C.2.1 (dk_at dkX6_read 128 rfl) (lv_at hl 0 rfl) ?_
                        refine lv_aload_n C.1 C.2.1 (dk_at dkX6_read 129 rfl) rfl (lv_at hl 2 rfl) ?_
                        refine r_get (v := .ref (a_m 17)) C hK w.1 (fun w h => List.mem_cons_of_mem _ (inlX6 w h)) 0 rfl rfl 31 (by decide) (List.mem_cons_of_mem _ (inr4 _ (List.mem_of_getElem? (i := 20) rfl))) rfl (dk_at dkX6_read 130 rfl) ?_
                        refine lv_iload C.1 C.2.1 (dk_at dkX6_read 131 rfl) (lv_at hl 0 rfl) ?_
                        obtain ⟨h69, hf⟩ := gd_at hf
                        refine r_iald (k := v65.toNatClampNeg) (f := before_9) C hK w.1 17 rfl h69 rfl (dk_at dkX6_read 132 rfl) ?_
                        refine lv_topi (fun x70 ex70 => ?_)
                        have hf := nm_at ex70 hf
                        obtain ⟨h71, hf⟩ := gd_at hf
                        refine r_iast (k := v65.toNatClampNeg) (f := st_66) C hK w 1 rfl h71 rfl (dk_at dkX6_read 133 rfl) (fun H locs w => ?_)
                        obtain ⟨st_72, est_72⟩ : ∃ z : AI, z = upd st_66 v65.toNatClampNeg x70 := ⟨_, rfl⟩
                        have hf := nm_at est_72 hf
                        have w : Wd g A Z.heap (wM g a_m st_72 now isKept hearers draft dHearers dWalls toldWinds tape taped pos frm sort value fault wrongAt landed landedIn stepped isThere isAt isNext landSum heardSum allWays ways drawn lanes sizes cells torn before_9) H locs := by rw [est_72]; exact w
                        obtain ⟨x73, ex73⟩ : ∃ z : Int32, z = v65 + 1 := ⟨_, rfl⟩
                        have hf := nm_at ex73 hf
                        refine lv_iinc (v := x73) (lv' := [(9, .int x73), (7, .int v17), (0, .ref (a_m 0))]) C.1 C.2.1 (dk_at dkX6_read 134 rfl) hl (k := 0) rfl (by rw [ex73]; rfl) (by decide) rfl (fun ls hl => ?_)
                        refine lv_goto (tgt := 217) C.1 C.2.1 (dk_at dkX6_read 135 rfl) (by decide) ?_
                        exact ih x73 st_72 _ _ _ w (lv_sub hl [0, 1, 2] rfl) hf
                  refine L67 _ ?_ 4096 0 st_60 _ _ _ w (lv_sub hl [0, 2, 5] rfl) hf
                  clear hf
                  intro v65 st_66 H locs ls w hl hf
                  refine lv_bipush (v := (-20)) C.1 C.2.1 (dk_at dkX6_read 136 rfl) (by decide) ?_
                  refine lv_iload C.1 C.2.1 (dk_at dkX6_read 137 rfl) (lv_at hl 0 rfl) ?_
                  refine lv_isub C.1 C.2.1 (dk_at dkX6_read 138 rfl) ?_
                  refine lv_topi (fun x74 ex74 => ?_)
                  have hf := nm_at ex74 hf
                  cases hf
                  exact fin _ _ _ _ _ (dk_at dkX6_read 139 rfl) rfl w
      refine L21 _ ?_ 4096 0 0 0 st _ _ _ w (lv_sub hl [0, 1, 2, 3, 4, 5, 6, 7] rfl) hf
      clear hf
      intro v17 v18 v19 st_20 H locs ls w hl hf
      refine lv_aload_n C.1 C.2.1 (dk_at dkX6_read 143 rfl) rfl (lv_at hl 2 rfl) ?_
      refine lv_iload C.1 C.2.1 (dk_at dkX6_read 144 rfl) (lv_at hl 1 rfl) ?_
      refine r_put (v := .int v19) C hK w (fun w h => List.mem_cons_of_mem _ (inlX6 w h)) tyX6 tyX6_ok nmX6 0 rfl rfl 30 (by decide) (List.mem_cons_of_mem _ (inr41 _ (List.mem_of_getElem? (i := 16) rfl))) rfl rfl rfl (Nat.le_of_ble_eq_true rfl) (dk_at dkX6_read 145 rfl) (fun H locs w => ?_)
      have w : Wd g A Z.heap (wM g a_m st_20 now isKept hearers draft dHearers dWalls toldWinds tape taped pos frm sort value fault wrongAt landed landedIn stepped isThere isAt isNext landSum heardSum allWays ways drawn lanes sizes cells v19 before_9) H locs := w
      refine lv_iload C.1 C.2.1 (dk_at dkX6_read 146 rfl) (lv_at hl 0 rfl) ?_
      cases hf
      exact fin _ _ _ _ _ (dk_at dkX6_read 147 rfl) rfl w
    · have hf := (if_pos c7).symm.trans hf
      refine lv_iconst (v := (-1)) C.1 C.2.1 (dk_at dkX6_read 10 rfl) (by decide) ?_
      cases hf
      exact fin _ _ _ _ _ (dk_at dkX6_read 11 rfl) rfl w
-- X6.torn
abbrev tbX6_torn : List (Nat × Instr × Nat) := [(0, .aload_n 0, 1), (1, .getfield 315, 3), (4, .ireturn, 1)]
theorem dkX6_torn : dk cX6_torn tbX6_torn := dk_of (by decide +kernel)
abbrev cdX6_torn : Cond := Cond.code yX6_torn cX6_torn 1 (some .int)
abbrev rmX6_torn : Room := { frames := 0, cells := 0, slots := 0, locals := 0 }
theorem mwX6_torn : Cond.instanceMethod yX6_torn ∈ wsL_law ∧ Cond.selects RX6 yX6_torn yX6_torn ∈ wsL_law ∧ Cond.initialized RX6 ∈ wsL_law ∧ cdX6_torn ∈ wsL_law := ⟨inr41 _ (List.mem_of_getElem? (i := 23) rfl), inr42 _ (List.mem_of_getElem? (i := 0) rfl), inr1 _ (List.mem_of_getElem? (i := 5) rfl), inr42 _ (List.mem_of_getElem? (i := 1) rfl)⟩
theorem hdX6_torn : yX6_torn.cls = RX6 ∧ yX6_torn.cls ≠ "java/lang/invoke/MethodHandle" ∧ yX6_torn.cls ≠ "java/lang/invoke/VarHandle" ∧ (parseMethodDescriptor yX6_torn.desc).map (fun d => d.parameters.length) = some 0 := by decide +kernel
set_option maxHeartbeats 4000000 in
set_option maxRecDepth 100000 in
theorem kX6_torn (l : Launch) (g : Gx) (a_m : Nat → Nat) (st : AI) (now : AI) (isKept : AI) (hearers : Int32) (draft : AI) (dHearers : Int32) (dWalls : Int32) (toldWinds : Int32) (tape : AI) (taped : Int32) (pos : Int32) (frm : Int32) (sort : Int32) (value : Int32) (fault : Int32) (wrongAt : Int32) (landed : AI) (landedIn : AI) (stepped : AI) (isThere : AI) (isAt : AI) (isNext : AI) (landSum : Int64) (heardSum : Int64) (allWays : Int64) (ways : AI) (drawn : AI) (lanes : AI) (sizes : AI) (cells : AI) (torn : Int32) (before : AI) (res : Int32) (hf : fX6_torn torn = some res) : Met l yX6_torn (cdX6_torn :: wsL_law) rmX6_torn (va_Pc [.ref (a_m 0)] (RO g (wM g a_m st now isKept hearers draft dHearers dWalls toldWinds tape taped pos frm sort value fault wrongAt landed landedIn stepped isThere isAt isNext landSum heardSum allWays ways drawn lanes sizes cells torn before))) (vp_Si (fun x => x = res)) 0 0 (fun _ => False) := by
  refine Met_roi (cc := cX6_torn) (maxL := 1) (by decide) rfl (Nat.le_of_ble_eq_true rfl) ?_
  intro P E Z Mi AR BE ME CO Q C fin hK hP ls hl
  have hl : lv_has ls 1 [(0, .ref (a_m 0))] := hl
  unfold fX6_torn at hf
  refine lv_aload_n C.1 C.2.1 (dk_at dkX6_torn 0 rfl) rfl (lv_at hl 0 rfl) ?_
  refine r_get (v := .int torn) C hK hP (fun w h => List.mem_cons_of_mem _ (inlX6 w h)) 0 rfl rfl 30 (by decide) (List.mem_cons_of_mem _ (inr41 _ (List.mem_of_getElem? (i := 16) rfl))) rfl (dk_at dkX6_torn 1 rfl) ?_
  cases hf
  exact fin _ _ _ (dk_at dkX6_torn 2 rfl) rfl
-- X6.count
abbrev tbX6_count : List (Nat × Instr × Nat) := [(0, .aload_n 0, 1), (1, .invokevirtual 201, 3), (4, .iconst 0, 1), (5, .istore_n 2, 1), (6, .iconst 0, 1), (7, .istore_n 3, 1), (8, .iload_n 3, 1), (9, .aload_n 0, 1), (10, .getfield 13, 3), (13, .bipush 43, 2), (15, .iaload, 1), (16, .if_icmp .ge 18, 3), (19, .iload_n 2, 1), (20, .aload_n 0, 1), (21, .iload_n 3, 1), (22, .iconst 3, 1), (23, .invokevirtual 181, 3), (26, .iadd, 1), (27, .istore_n 2, 1), (28, .iinc 3 1, 3), (31, .goto (-23), 3), (34, .iload_n 1, 1), (35, .tableswitch 91 0 4 #[33, 41, 61, 66, 89], 33), (68, .aload_n 0, 1), (69, .getfield 7, 3), (72, .bipush 48, 2), (74, .iaload, 1), (75, .ireturn, 1), (76, .aload_n 0, 1), (77, .getfield 16, 3), (80, .iconst 0, 1), (81, .baload, 1), (82, .invokestatic 207, 3), (85, .aload_n 0, 1), (86, .getfield 16, 3), (89, .iconst 1, 1), (90, .baload, 1), (91, .invokestatic 207, 3), (94, .iadd, 1), (95, .ireturn, 1), (96, .aload_n 0, 1), (97, .getfield 87, 3), (100, .ireturn, 1), (101, .aload_n 0, 1), (102, .getfield 50, 3), (105, .iconst 0, 1), (106, .iaload, 1), (107, .bipush (-4), 2), (109, .if_icmp .ne 8, 3), (112, .bipush (-4), 2), (114, .goto 9, 3), (117, .aload_n 0, 1), (118, .getfield 53, 3), (121, .iconst 0, 1), (122, .iaload, 1), (123, .ireturn, 1), (124, .iload_n 2, 1), (125, .ireturn, 1), (126, .iconst (-1), 1), (127, .ireturn, 1)]
theorem dkX6_count : dk cX6_count tbX6_count := dk_of (by decide +kernel)
abbrev cdX6_count : Cond := Cond.code yX6_count cX6_count 4 (some .int)
abbrev rmX6_count : Room := { frames := 1, cells := 0, slots := 0, locals := 22 }
theorem mwX6_count : Cond.instanceMethod yX6_count ∈ wsL_law ∧ Cond.selects RX6 yX6_count yX6_count ∈ wsL_law ∧ Cond.initialized RX6 ∈ wsL_law ∧ cdX6_count ∈ wsL_law := ⟨inr42 _ (List.mem_of_getElem? (i := 17) rfl), inr42 _ (List.mem_of_getElem? (i := 18) rfl), inr1 _ (List.mem_of_getElem? (i := 5) rfl), inr42 _ (List.mem_of_getElem? (i := 19) rfl)⟩
theorem hdX6_count : yX6_count.cls = RX6 ∧ yX6_count.cls ≠ "java/lang/invoke/MethodHandle" ∧ yX6_count.cls ≠ "java/lang/invoke/VarHandle" ∧ (parseMethodDescriptor yX6_count.desc).map (fun d => d.parameters.length) = some 1 := by decide +kernel
set_option maxHeartbeats 4000000 in
set_option maxRecDepth 100000 in
theorem kX6_count (l : Launch) (g : Gx) (sz : Nat) (a_m : Nat → Nat) (st : AI) (now : AI) (isKept : AI) (hearers : Int32) (draft : AI) (dHearers : Int32) (dWalls : Int32) (toldWinds : Int32) (tape : AI) (taped : Int32) (pos : Int32) (frm : Int32) (sort : Int32) (value : Int32) (fault : Int32) (wrongAt : Int32) (landed : AI) (landedIn : AI) (stepped : AI) (isThere : AI) (isAt : AI) (isNext : AI) (landSum : Int64) (heardSum : Int64) (allWays : Int64) (ways : AI) (drawn : AI) (lanes : AI) (sizes : AI) (cells : AI) (torn : Int32) (before : AI) (p1 : Int32) (res : Int32) (now_o : AI) (hf : fX6_count p1 st now isKept taped lanes sizes = some (res, now_o)) : Met l yX6_count (cdX6_count :: wsL_law) rmX6_count (va_Pc [.ref (a_m 0), .int p1] (RWp g sz (wM g a_m st now isKept hearers draft dHearers dWalls toldWinds tape taped pos frm sort value fault wrongAt landed landedIn stepped isThere isAt isNext landSum heardSum allWays ways drawn lanes sizes cells torn before))) (va_Qi (fun x (_ : Unit) => x = res) (fun _ => RWq g (va_A (wM g a_m st now isKept hearers draft dHearers dWalls toldWinds tape taped pos frm sort value fault wrongAt landed landedIn stepped isThere isAt isNext landSum heardSum allWays ways drawn lanes sizes cells torn before) sz) (wM g a_m st now_o isKept hearers draft dHearers dWalls toldWinds tape taped pos frm sort value fault wrongAt landed landedIn stepped isThere isAt isNext landSum heardSum allWays ways drawn lanes sizes cells torn before)) (va_A (wM g a_m st now isKept hearers draft dHearers dWalls toldWinds tape taped pos frm sort value fault wrongAt landed landedIn stepped isThere isAt isNext landSum heardSum allWays ways drawn lanes sizes cells torn before) sz)) 0 0 (va_A (wM g a_m st now isKept hearers draft dHearers dWalls toldWinds tape taped pos frm sort value fault wrongAt landed landedIn stepped isThere isAt isNext landSum heardSum allWays ways drawn lanes sizes cells torn before) sz) := by
  refine Met_rwi (cc := cX6_count) (maxL := 4) (by decide) rfl (Nat.le_of_ble_eq_true rfl) ?_
  intro P E Z Mi AR BE ME CO A Q C hK hA fin w ls hl
  have hl : lv_has ls 4 [(0, .ref (a_m 0)), (1, .int p1)] := hl
  unfold fX6_count at hf
  refine lv_aload_n C.1 C.2.1 (dk_at dkX6_count 0 rfl) rfl (lv_at hl 0 rfl) ?_
  obtain ⟨now_1, hq2, hf⟩ := bd1_at hf
  refine r_rwv (As := []) (rest := []) (wr := []) (ws' := wM g a_m st now_1 isKept hearers draft dHearers dWalls toldWinds tape taped pos frm sort value fault wrongAt landed landedIn stepped isThere isAt isNext landSum heardSum allWays ways drawn lanes sizes cells torn before) C (kX6_starts l g _ a_m st now isKept hearers draft dHearers dWalls toldWinds tape taped pos frm sort value fault wrongAt landed landedIn stepped isThere isAt isNext landSum heardSum allWays ways drawn lanes sizes cells torn before now_1 hq2) (cwV0 C (inr17 _ (List.mem_of_getElem? (i := 3) rfl)) mwX6_starts hdX6_starts ⟨Nat.le_of_ble_eq_true rfl, Nat.le_of_ble_eq_true rfl⟩) hK w hA [0, 1, 2, 3, 4, 5, 6, 7, 8, 9, 10, 11, 12, 13, 14, 15, 16, 17] [] [0, 1, 2, 3, 4, 5, 6, 7, 8, 9, 10, 11, 12, 13, 14, 15, 16, 17] (by decide) rfl rfl (by decide) (by decide) rfl (by decide) rfl rfl rfl hl.1 rfl (Nat.le_of_ble_eq_true rfl) ⟨Nat.zero_le _, Nat.zero_le _⟩ (dk_at dkX6_count 1 rfl) (fun H locs w => ?_)
  refine lv_iconst (v := 0) C.1 C.2.1 (dk_at dkX6_count 2 rfl) (by decide) ?_
  refine lv_istore_n (lv' := [(2, .int 0), (0, .ref (a_m 0)), (1, .int p1)]) C.1 C.2.1 (dk_at dkX6_count 3 rfl) rfl hl (by decide) rfl (fun ls hl => ?_)
  refine lv_iconst (v := 0) C.1 C.2.1 (dk_at dkX6_count 4 rfl) (by decide) ?_
  refine lv_istore_n (lv' := [(3, .int 0), (2, .int 0), (0, .ref (a_m 0)), (1, .int p1)]) C.1 C.2.1 (dk_at dkX6_count 5 rfl) rfl hl (by decide) rfl (fun ls hl => ?_)
  have L5 : ∀ (K : Int32 → Int32 → Option (Int32 × AI)), (∀ (v3 : Int32) (v4 : Int32) (H : Heap) (locs : List Loc) (ls : Array Slot), Wd g A Z.heap (wM g a_m st now_1 isKept hearers draft dHearers dWalls toldWinds tape taped pos frm sort value fault wrongAt landed landedIn stepped isThere isAt isNext landSum heardSum allWays ways drawn lanes sizes cells torn before) H locs → lv_has ls 4 [(2, .int v4), (0, .ref (a_m 0)), (1, .int p1)] → K v3 v4 = some (res, now_o) → W P l E rmX6_count Z Mi AR BE ME CO H locs 0 0 Q (F0 Mi 34 ls [])) → ∀ (n : Nat), ∀ (v3 : Int32) (v4 : Int32) (H : Heap) (locs : List Loc) (ls : Array Slot), Wd g A Z.heap (wM g a_m st now_1 isKept hearers draft dHearers dWalls toldWinds tape taped pos frm sort value fault wrongAt landed landedIn stepped isThere isAt isNext landSum heardSum allWays ways drawn lanes sizes cells torn before) H locs → lv_has ls 4 [(3, .int v3), (2, .int v4), (0, .ref (a_m 0)), (1, .int p1)] → fX6_count_L8 now_1 K n v3 v4 = some (res, now_o) → W P l E rmX6_count Z Mi AR BE ME CO H locs 0 0 Q (F0 Mi 8 ls []) := by
    intro K hKe n
    induction n with
    | zero => intro v3 v4 H locs ls w hl hf; cases hf
    | succ n ih =>
      intro v3 v4 H locs ls w hl hf
      rw [fX6_count_L8] at hf
      refine lv_iload_n C.1 C.2.1 (dk_at dkX6_count 6 rfl) rfl (lv_at hl 0 rfl) ?_
      refine lv_aload_n C.1 C.2.1 (dk_at dkX6_count 7 rfl) rfl (lv_at hl 2 rfl) ?_
      refine r_get (v := .ref (a_m 2)) C hK w.1 (fun w h => List.mem_cons_of_mem _ (inlX6 w h)) 0 rfl rfl 1 (by decide) (List.mem_cons_of_mem _ (inr4 _ (List.mem_of_getElem? (i := 5) rfl))) rfl (dk_at dkX6_count 8 rfl) ?_
      refine lv_bipush (v := 43) C.1 C.2.1 (dk_at dkX6_count 9 rfl) (by decide) ?_
      refine r_iald (k := 43) (f := now_1) C hK w.1 2 rfl (in_c (by decide)) (by decide) (dk_at dkX6_count 10 rfl) ?_
      refine lv_icmp_ge (tgt := 34) C.1 C.2.1 (dk_at dkX6_count 11 rfl) (by decide) (fun c6 => ?_) (fun c6 => ?_)
      · have hf := (if_pos c6).symm.trans hf
        exact hKe v3 v4 _ _ _ w (lv_sub hl [1, 2, 3] rfl) hf
      · have hf := (if_neg c6).symm.trans hf
        refine lv_iload_n C.1 C.2.1 (dk_at dkX6_count 12 rfl) rfl (lv_at hl 1 rfl) ?_
        refine lv_aload_n C.1 C.2.1 (dk_at dkX6_count 13 rfl) rfl (lv_at hl 2 rfl) ?_
        refine lv_iload_n C.1 C.2.1 (dk_at dkX6_count 14 rfl) rfl (lv_at hl 0 rfl) ?_
        refine lv_iconst (v := 3) C.1 C.2.1 (dk_at dkX6_count 15 rfl) (by decide) ?_
        obtain ⟨r7, hq8, hf⟩ := bd1_at hf
        refine r_roV (As := [.int v3, .int 3]) (rest := [.int v4]) C (kX6_of l g a_m st now_1 isKept hearers draft dHearers dWalls toldWinds tape taped pos frm sort value fault wrongAt landed landedIn stepped isThere isAt isNext landSum heardSum allWays ways drawn lanes sizes cells torn before v3 3 r7 hq8) (cwV0 C (inr18 _ (List.mem_of_getElem? (i := 14) rfl)) mwX6_of hdX6_of ⟨Nat.le_of_ble_eq_true rfl, Nat.le_of_ble_eq_true rfl⟩) hK w.1 rfl rfl rfl hl.1 rfl (Nat.le_of_ble_eq_true rfl) ⟨Nat.zero_le _, Nat.zero_le _⟩ (dk_at dkX6_count 16 rfl) ?_
        refine lv_iadd C.1 C.2.1 (dk_at dkX6_count 17 rfl) ?_
        refine lv_topi (fun x9 ex9 => ?_)
        have hf := nm_at ex9 hf
        refine lv_istore_n (lv' := [(2, .int x9), (3, .int v3), (0, .ref (a_m 0)), (1, .int p1)]) C.1 C.2.1 (dk_at dkX6_count 18 rfl) rfl hl (by decide) rfl (fun ls hl => ?_)
        obtain ⟨x10, ex10⟩ : ∃ z : Int32, z = v3 + 1 := ⟨_, rfl⟩
        have hf := nm_at ex10 hf
        refine lv_iinc (v := x10) (lv' := [(3, .int x10), (2, .int x9), (0, .ref (a_m 0)), (1, .int p1)]) C.1 C.2.1 (dk_at dkX6_count 19 rfl) hl (k := 1) rfl (by rw [ex10]; rfl) (by decide) rfl (fun ls hl => ?_)
        refine lv_goto (tgt := 8) C.1 C.2.1 (dk_at dkX6_count 20 rfl) (by decide) ?_
        exact ih x10 x9 _ _ _ w (lv_sub hl [0, 1, 2, 3] rfl) hf
  refine L5 _ ?_ 4096 0 0 _ _ _ w (lv_sub hl [0, 1, 2, 3] rfl) hf
  clear hf
  intro v3 v4 H locs ls w hl hf
  refine lv_iload_n C.1 C.2.1 (dk_at dkX6_count 21 rfl) rfl (lv_at hl 2 rfl) ?_
  by_cases c11 : p1 = 0
  · have hf := (if_pos c11).symm.trans hf
    refine lv_tableIn (tgt := 68) C.1 C.2.1 (dk_at dkX6_count 22 rfl) (by rw [c11]; decide) (by rw [c11]; decide) (by rw [c11]; rfl) (by decide) ?_
    refine lv_aload_n C.1 C.2.1 (dk_at dkX6_count 23 rfl) rfl (lv_at hl 1 rfl) ?_
    refine r_get (v := .ref (a_m 1)) C hK w.1 (fun w h => List.mem_cons_of_mem _ (inlX6 w h)) 0 rfl rfl 0 (by decide) (List.mem_cons_of_mem _ (inr4 _ (List.mem_of_getElem? (i := 4) rfl))) rfl (dk_at dkX6_count 24 rfl) ?_
    refine lv_bipush (v := 48) C.1 C.2.1 (dk_at dkX6_count 25 rfl) (by decide) ?_
    refine r_iald (k := 48) (f := st) C hK w.1 1 rfl (in_c (by decide)) (by decide) (dk_at dkX6_count 26 rfl) ?_
    refine lv_topi (fun x12 ex12 => ?_)
    have hf := nm_at ex12 hf
    cases hf
    exact fin _ _ _ _ _ (dk_at dkX6_count 27 rfl) rfl w
  have hf := (if_neg c11).symm.trans hf
  by_cases c13 : p1 = 1
  · have hf := (if_pos c13).symm.trans hf
    refine lv_tableIn (tgt := 76) C.1 C.2.1 (dk_at dkX6_count 22 rfl) (by rw [c13]; decide) (by rw [c13]; decide) (by rw [c13]; rfl) (by decide) ?_
    refine lv_aload_n C.1 C.2.1 (dk_at dkX6_count 28 rfl) rfl (lv_at hl 1 rfl) ?_
    refine r_get (v := .ref (a_m 3)) C hK w.1 (fun w h => List.mem_cons_of_mem _ (inlX6 w h)) 0 rfl rfl 2 (by decide) (List.mem_cons_of_mem _ (inr4 _ (List.mem_of_getElem? (i := 6) rfl))) rfl (dk_at dkX6_count 29 rfl) ?_
    refine lv_iconst (v := 0) C.1 C.2.1 (dk_at dkX6_count 30 rfl) (by decide) ?_
    refine r_zald (k := 0) (f := isKept) C hK w.1 3 rfl (in_c (by decide)) (by decide) (dk_at dkX6_count 31 rfl) ?_
    refine lv_topi (fun x14 ex14 => ?_)
    have hf := nm_at ex14 hf
    obtain ⟨r15, hq16, hf⟩ := bd1_at hf
    refine r_st (As := [.int x14]) (rest := []) C (kX6_flag l x14 r15 hq16) (cwS0 C (inr17 _ (List.mem_of_getElem? (i := 7) rfl)) mwX6_flag hdX6_flag ⟨Nat.le_of_ble_eq_true rfl, Nat.le_of_ble_eq_true rfl⟩) rfl hl.1 rfl (Nat.le_of_ble_eq_true rfl) ⟨Nat.zero_le _, Nat.zero_le _⟩ (dk_at dkX6_count 32 rfl) ?_
    refine lv_aload_n C.1 C.2.1 (dk_at dkX6_count 33 rfl) rfl (lv_at hl 1 rfl) ?_
    refine r_get (v := .ref (a_m 3)) C hK w.1 (fun w h => List.mem_cons_of_mem _ (inlX6 w h)) 0 rfl rfl 2 (by decide) (List.mem_cons_of_mem _ (inr4 _ (List.mem_of_getElem? (i := 6) rfl))) rfl (dk_at dkX6_count 34 rfl) ?_
    refine lv_iconst (v := 1) C.1 C.2.1 (dk_at dkX6_count 35 rfl) (by decide) ?_
    refine r_zald (k := 1) (f := isKept) C hK w.1 3 rfl (in_c (by decide)) (by decide) (dk_at dkX6_count 36 rfl) ?_
    refine lv_topi (fun x17 ex17 => ?_)
    have hf := nm_at ex17 hf
    obtain ⟨r18, hq19, hf⟩ := bd1_at hf
    refine r_st (As := [.int x17]) (rest := [.int r15]) C (kX6_flag l x17 r18 hq19) (cwS0 C (inr17 _ (List.mem_of_getElem? (i := 7) rfl)) mwX6_flag hdX6_flag ⟨Nat.le_of_ble_eq_true rfl, Nat.le_of_ble_eq_true rfl⟩) rfl hl.1 rfl (Nat.le_of_ble_eq_true rfl) ⟨Nat.zero_le _, Nat.zero_le _⟩ (dk_at dkX6_count 37 rfl) ?_
    refine lv_iadd C.1 C.2.1 (dk_at dkX6_count 38 rfl) ?_
    refine lv_topi (fun x20 ex20 => ?_)
    have hf := nm_at ex20 hf
    cases hf
    exact fin _ _ _ _ _ (dk_at dkX6_count 39 rfl) rfl w
  have hf := (if_neg c13).symm.trans hf
  by_cases c21 : p1 = 2
  · have hf := (if_pos c21).symm.trans hf
    refine lv_tableIn (tgt := 96) C.1 C.2.1 (dk_at dkX6_count 22 rfl) (by rw [c21]; decide) (by rw [c21]; decide) (by rw [c21]; rfl) (by decide) ?_
    refine lv_aload_n C.1 C.2.1 (dk_at dkX6_count 40 rfl) rfl (lv_at hl 1 rfl) ?_
    refine r_get (v := .int taped) C hK w.1 (fun w h => List.mem_cons_of_mem _ (inlX6 w h)) 0 rfl rfl 9 (by decide) (List.mem_cons_of_mem _ (inr5 _ (List.mem_of_getElem? (i := 20) rfl))) rfl (dk_at dkX6_count 41 rfl) ?_
    cases hf
    exact fin _ _ _ _ _ (dk_at dkX6_count 42 rfl) rfl w
  have hf := (if_neg c21).symm.trans hf
  by_cases c22 : p1 = 3
  · have hf := (if_pos c22).symm.trans hf
    refine lv_tableIn (tgt := 101) C.1 C.2.1 (dk_at dkX6_count 22 rfl) (by rw [c22]; decide) (by rw [c22]; decide) (by rw [c22]; rfl) (by decide) ?_
    refine lv_aload_n C.1 C.2.1 (dk_at dkX6_count 43 rfl) rfl (lv_at hl 1 rfl) ?_
    refine r_get (v := .ref (a_m 14)) C hK w.1 (fun w h => List.mem_cons_of_mem _ (inlX6 w h)) 0 rfl rfl 27 (by decide) (List.mem_cons_of_mem _ (inr4 _ (List.mem_of_getElem? (i := 17) rfl))) rfl (dk_at dkX6_count 44 rfl) ?_
    refine lv_iconst (v := 0) C.1 C.2.1 (dk_at dkX6_count 45 rfl) (by decide) ?_
    refine r_iald (k := 0) (f := lanes) C hK w.1 14 rfl (in_c (by decide)) (by decide) (dk_at dkX6_count 46 rfl) ?_
    refine lv_topi (fun x23 ex23 => ?_)
    have hf := nm_at ex23 hf
    refine lv_bipush (v := (-4)) C.1 C.2.1 (dk_at dkX6_count 47 rfl) (by decide) ?_
    refine lv_icmp_ne (tgt := 117) C.1 C.2.1 (dk_at dkX6_count 48 rfl) (by decide) (fun c24 => ?_) (fun c24 => ?_)
    · have hf := (if_neg c24).symm.trans hf
      refine lv_aload_n C.1 C.2.1 (dk_at dkX6_count 51 rfl) rfl (lv_at hl 1 rfl) ?_
      refine r_get (v := .ref (a_m 15)) C hK w.1 (fun w h => List.mem_cons_of_mem _ (inlX6 w h)) 0 rfl rfl 28 (by decide) (List.mem_cons_of_mem _ (inr4 _ (List.mem_of_getElem? (i := 18) rfl))) rfl (dk_at dkX6_count 52 rfl) ?_
      refine lv_iconst (v := 0) C.1 C.2.1 (dk_at dkX6_count 53 rfl) (by decide) ?_
      refine r_iald (k := 0) (f := sizes) C hK w.1 15 rfl (in_c (by decide)) (by decide) (dk_at dkX6_count 54 rfl) ?_
      refine lv_topi (fun x25 ex25 => ?_)
      have hf := nm_at ex25 hf
      cases hf
      exact fin _ _ _ _ _ (dk_at dkX6_count 55 rfl) rfl w
    · have hf := (if_pos c24).symm.trans hf
      refine lv_bipush (v := (-4)) C.1 C.2.1 (dk_at dkX6_count 49 rfl) (by decide) ?_
      refine lv_goto (tgt := 123) C.1 C.2.1 (dk_at dkX6_count 50 rfl) (by decide) ?_
      cases hf
      exact fin _ _ _ _ _ (dk_at dkX6_count 55 rfl) rfl w
  have hf := (if_neg c22).symm.trans hf
  by_cases c26 : p1 = 4
  · have hf := (if_pos c26).symm.trans hf
    refine lv_tableIn (tgt := 124) C.1 C.2.1 (dk_at dkX6_count 22 rfl) (by rw [c26]; decide) (by rw [c26]; decide) (by rw [c26]; rfl) (by decide) ?_
    refine lv_iload_n C.1 C.2.1 (dk_at dkX6_count 56 rfl) rfl (lv_at hl 0 rfl) ?_
    cases hf
    exact fin _ _ _ _ _ (dk_at dkX6_count 57 rfl) rfl w
  have hf := (if_neg c26).symm.trans hf
  have c11n : p1.toInt ≠ 0 := fun q => c11 (by rw [← Int32.ofInt_toInt p1, q]; rfl)
  have c13n : p1.toInt ≠ 1 := fun q => c13 (by rw [← Int32.ofInt_toInt p1, q]; rfl)
  have c21n : p1.toInt ≠ 2 := fun q => c21 (by rw [← Int32.ofInt_toInt p1, q]; rfl)
  have c22n : p1.toInt ≠ 3 := fun q => c22 (by rw [← Int32.ofInt_toInt p1, q]; rfl)
  have c26n : p1.toInt ≠ 4 := fun q => c26 (by rw [← Int32.ofInt_toInt p1, q]; rfl)
  refine lv_tableOut (tgt := 126) C.1 C.2.1 (dk_at dkX6_count 22 rfl) (by omega) (by decide) ?_
  refine lv_iconst (v := (-1)) C.1 C.2.1 (dk_at dkX6_count 58 rfl) (by decide) ?_
  cases hf
  exact fin _ _ _ _ _ (dk_at dkX6_count 59 rfl) rfl w
