-- X6.rule
abbrev tbX6_rule : List (Nat × Instr × Nat) := [(0, .aload_n 0, 1), (1, .invokevirtual 201, 3), (4, .iconst 0, 1), (5, .istore_n 2, 1), (6, .iconst 0, 1), (7, .istore_n 3, 1), (8, .iload_n 3, 1), (9, .bipush 10, 2), (11, .if_icmp .ge 35, 3), (14, .iload_n 2, 1), (15, .aload_n 0, 1), (16, .getfield 13, 3), (19, .bipush 8, 2), (21, .iload_n 3, 1), (22, .iadd, 1), (23, .iaload, 1), (24, .iconst 4, 1), (25, .if_icmp .eq 7, 3), (28, .iconst 1, 1), (29, .goto 4, 3), (32, .iconst 0, 1), (33, .invokestatic 207, 3), (36, .iload_n 3, 1), (37, .ishl, 1), (38, .ior, 1), (39, .istore_n 2, 1), (40, .iinc 3 1, 3), (43, .goto (-35), 3), (46, .iload_n 1, 1), (47, .tableswitch 49 0 3 #[29, 37, 42, 47], 29), (76, .aload_n 0, 1), (77, .getfield 7, 3), (80, .bipush 43, 2), (82, .iaload, 1), (83, .ireturn, 1), (84, .aload_n 0, 1), (85, .getfield 78, 3), (88, .ireturn, 1), (89, .aload_n 0, 1), (90, .invokevirtual 195, 3), (93, .ireturn, 1), (94, .iload_n 2, 1), (95, .ireturn, 1), (96, .iconst (-1), 1), (97, .ireturn, 1)]
theorem dkX6_rule : dk cX6_rule tbX6_rule := dk_of (by decide +kernel)
abbrev cdX6_rule : Cond := Cond.code yX6_rule cX6_rule 4 (some .int)
abbrev rmX6_rule : Room := { frames := 2, cells := 0, slots := 0, locals := 44 }
theorem mwX6_rule : Cond.instanceMethod yX6_rule ∈ wsL_law ∧ Cond.selects RX6 yX6_rule yX6_rule ∈ wsL_law ∧ Cond.initialized RX6 ∈ wsL_law ∧ cdX6_rule ∈ wsL_law := ⟨inr17 _ (List.mem_of_getElem? (i := 0) rfl), inr17 _ (List.mem_of_getElem? (i := 1) rfl), inr1 _ (List.mem_of_getElem? (i := 5) rfl), inr17 _ (List.mem_of_getElem? (i := 2) rfl)⟩
theorem hdX6_rule : yX6_rule.cls = RX6 ∧ yX6_rule.cls ≠ "java/lang/invoke/MethodHandle" ∧ yX6_rule.cls ≠ "java/lang/invoke/VarHandle" ∧ (parseMethodDescriptor yX6_rule.desc).map (fun d => d.parameters.length) = some 1 := by decide +kernel
set_option maxHeartbeats 4000000 in
set_option maxRecDepth 100000 in
theorem kX6_rule (l : Launch) (g : Gx) (sz : Nat) (a_m : Nat → Nat) (st : AI) (now : AI) (isKept : AI) (hearers : Int32) (draft : AI) (dHearers : Int32) (dWalls : Int32) (toldWinds : Int32) (tape : AI) (taped : Int32) (pos : Int32) (frm : Int32) (sort : Int32) (value : Int32) (fault : Int32) (wrongAt : Int32) (landed : AI) (landedIn : AI) (stepped : AI) (isThere : AI) (isAt : AI) (isNext : AI) (landSum : Int64) (heardSum : Int64) (allWays : Int64) (ways : AI) (drawn : AI) (lanes : AI) (sizes : AI) (cells : AI) (torn : Int32) (before : AI) (p1 : Int32) (res : Int32) (now_o : AI) (hf : fX6_rule p1 st now hearers = some (res, now_o)) : Met l yX6_rule (cdX6_rule :: wsL_law) rmX6_rule (va_Pc [.ref (a_m 0), .int p1] (RWp g sz (wM g a_m st now isKept hearers draft dHearers dWalls toldWinds tape taped pos frm sort value fault wrongAt landed landedIn stepped isThere isAt isNext landSum heardSum allWays ways drawn lanes sizes cells torn before))) (va_Qi (fun x (_ : Unit) => x = res) (fun _ => RWq g (va_A (wM g a_m st now isKept hearers draft dHearers dWalls toldWinds tape taped pos frm sort value fault wrongAt landed landedIn stepped isThere isAt isNext landSum heardSum allWays ways drawn lanes sizes cells torn before) sz) (wM g a_m st now_o isKept hearers draft dHearers dWalls toldWinds tape taped pos frm sort value fault wrongAt landed landedIn stepped isThere isAt isNext landSum heardSum allWays ways drawn lanes sizes cells torn before)) (va_A (wM g a_m st now isKept hearers draft dHearers dWalls toldWinds tape taped pos frm sort value fault wrongAt landed landedIn stepped isThere isAt isNext landSum heardSum allWays ways drawn lanes sizes cells torn before) sz)) 0 0 (va_A (wM g a_m st now isKept hearers draft dHearers dWalls toldWinds tape taped pos frm sort value fault wrongAt landed landedIn stepped isThere isAt isNext landSum heardSum allWays ways drawn lanes sizes cells torn before) sz) := by
  refine Met_rwi (cc := cX6_rule) (maxL := 4) (by decide) rfl (Nat.le_of_ble_eq_true rfl) ?_
  intro P E Z Mi AR BE ME CO A Q C hK hA fin w ls hl
  have hl : lv_has ls 4 [(0, .ref (a_m 0)), (1, .int p1)] := hl
  unfold fX6_rule at hf
  refine lv_aload_n C.1 C.2.1 (dk_at dkX6_rule 0 rfl) rfl (lv_at hl 0 rfl) ?_
  obtain ⟨now_1, hq2, hf⟩ := bd1_at hf
  refine r_rwv (As := []) (rest := []) (wr := []) (ws' := wM g a_m st now_1 isKept hearers draft dHearers dWalls toldWinds tape taped pos frm sort value fault wrongAt landed landedIn stepped isThere isAt isNext landSum heardSum allWays ways drawn lanes sizes cells torn before) C (kX6_starts l g _ a_m st now isKept hearers draft dHearers dWalls toldWinds tape taped pos frm sort value fault wrongAt landed landedIn stepped isThere isAt isNext landSum heardSum allWays ways drawn lanes sizes cells torn before now_1 hq2) (cwV0 C (inr17 _ (List.mem_of_getElem? (i := 3) rfl)) mwX6_starts hdX6_starts ⟨Nat.le_of_ble_eq_true rfl, Nat.le_of_ble_eq_true rfl⟩) hK w hA [0, 1, 2, 3, 4, 5, 6, 7, 8, 9, 10, 11, 12, 13, 14, 15, 16, 17] [] [0, 1, 2, 3, 4, 5, 6, 7, 8, 9, 10, 11, 12, 13, 14, 15, 16, 17] (by decide) rfl rfl (by decide) (by decide) rfl (by decide) rfl rfl rfl hl.1 rfl (Nat.le_of_ble_eq_true rfl) ⟨Nat.zero_le _, Nat.zero_le _⟩ (dk_at dkX6_rule 1 rfl) (fun H locs w => ?_)
  refine lv_iconst (v := 0) C.1 C.2.1 (dk_at dkX6_rule 2 rfl) (by decide) ?_
  refine lv_istore_n (lv' := [(2, .int 0), (0, .ref (a_m 0)), (1, .int p1)]) C.1 C.2.1 (dk_at dkX6_rule 3 rfl) rfl hl (by decide) rfl (fun ls hl => ?_)
  refine lv_iconst (v := 0) C.1 C.2.1 (dk_at dkX6_rule 4 rfl) (by decide) ?_
  refine lv_istore_n (lv' := [(3, .int 0), (2, .int 0), (0, .ref (a_m 0)), (1, .int p1)]) C.1 C.2.1 (dk_at dkX6_rule 5 rfl) rfl hl (by decide) rfl (fun ls hl => ?_)
  have L5 : ∀ (K : Int32 → Int32 → Option (Int32 × AI)), (∀ (v3 : Int32) (v4 : Int32) (H : Heap) (locs : List Loc) (ls : Array Slot), Wd g A Z.heap (wM g a_m st now_1 isKept hearers draft dHearers dWalls toldWinds tape taped pos frm sort value fault wrongAt landed landedIn stepped isThere isAt isNext landSum heardSum allWays ways drawn lanes sizes cells torn before) H locs → lv_has ls 4 [(2, .int v4), (0, .ref (a_m 0)), (1, .int p1)] → K v3 v4 = some (res, now_o) → W P l E rmX6_rule Z Mi AR BE ME CO H locs 0 0 Q (F0 Mi 46 ls [])) → ∀ (n : Nat), ∀ (v3 : Int32) (v4 : Int32) (H : Heap) (locs : List Loc) (ls : Array Slot), Wd g A Z.heap (wM g a_m st now_1 isKept hearers draft dHearers dWalls toldWinds tape taped pos frm sort value fault wrongAt landed landedIn stepped isThere isAt isNext landSum heardSum allWays ways drawn lanes sizes cells torn before) H locs → lv_has ls 4 [(3, .int v3), (2, .int v4), (0, .ref (a_m 0)), (1, .int p1)] → fX6_rule_L8 now_1 K n v3 v4 = some (res, now_o) → W P l E rmX6_rule Z Mi AR BE ME CO H locs 0 0 Q (F0 Mi 8 ls []) := by
    intro K hKe n
    induction n with
    | zero => intro v3 v4 H locs ls w hl hf; cases hf
    | succ n ih =>
      intro v3 v4 H locs ls w hl hf
      rw [fX6_rule_L8] at hf
      refine lv_iload_n C.1 C.2.1 (dk_at dkX6_rule 6 rfl) rfl (lv_at hl 0 rfl) ?_
      refine lv_bipush (v := 10) C.1 C.2.1 (dk_at dkX6_rule 7 rfl) (by decide) ?_
      refine lv_icmp_ge (tgt := 46) C.1 C.2.1 (dk_at dkX6_rule 8 rfl) (by decide) (fun c6 => ?_) (fun c6 => ?_)
      · have hf := (if_pos c6).symm.trans hf
        exact hKe v3 v4 _ _ _ w (lv_sub hl [1, 2, 3] rfl) hf
      · have hf := (if_neg c6).symm.trans hf
        refine lv_iload_n C.1 C.2.1 (dk_at dkX6_rule 9 rfl) rfl (lv_at hl 1 rfl) ?_
        refine lv_aload_n C.1 C.2.1 (dk_at dkX6_rule 10 rfl) rfl (lv_at hl 2 rfl) ?_
        refine r_get (v := .ref (a_m 2)) C hK w.1 (fun w h => List.mem_cons_of_mem _ (inlX6 w h)) 0 rfl rfl 1 (by decide) (List.mem_cons_of_mem _ (inr4 _ (List.mem_of_getElem? (i := 5) rfl))) rfl (dk_at dkX6_rule 11 rfl) ?_
        refine lv_bipush (v := 8) C.1 C.2.1 (dk_at dkX6_rule 12 rfl) (by decide) ?_
        refine lv_iload_n C.1 C.2.1 (dk_at dkX6_rule 13 rfl) rfl (lv_at hl 0 rfl) ?_
        refine lv_iadd C.1 C.2.1 (dk_at dkX6_rule 14 rfl) ?_
        refine lv_topi (fun x7 ex7 => ?_)
        have hf := nm_at ex7 hf
        obtain ⟨h8, hf⟩ := gd_at hf
        refine r_iald (k := x7.toNatClampNeg) (f := now_1) C hK w.1 2 rfl h8 rfl (dk_at dkX6_rule 15 rfl) ?_
        refine lv_topi (fun x9 ex9 => ?_)
        have hf := nm_at ex9 hf
        refine lv_iconst (v := 4) C.1 C.2.1 (dk_at dkX6_rule 16 rfl) (by decide) ?_
        obtain ⟨y10, hq11, hf⟩ := bd1_at hf
        have J12 : ∀ (H : Heap) (locs : List Loc) (ls : Array Slot), Wd g A Z.heap (wM g a_m st now_1 isKept hearers draft dHearers dWalls toldWinds tape taped pos frm sort value fault wrongAt landed landedIn stepped isThere isAt isNext landSum heardSum allWays ways drawn lanes sizes cells torn before) H locs → lv_has ls 4 [(3, .int v3), (0, .ref (a_m 0)), (1, .int p1)] → W P l E rmX6_rule Z Mi AR BE ME CO H locs 0 0 Q (F0 Mi 33 ls [.int y10, .int v4]) := by
          intro H locs ls w hl
          obtain ⟨r13, hq14, hf⟩ := bd1_at hf
          refine r_st (As := [.int y10]) (rest := [.int v4]) C (kX6_flag l y10 r13 hq14) (cwS0 C (inr17 _ (List.mem_of_getElem? (i := 7) rfl)) mwX6_flag hdX6_flag ⟨Nat.le_of_ble_eq_true rfl, Nat.le_of_ble_eq_true rfl⟩) rfl hl.1 rfl (Nat.le_of_ble_eq_true rfl) ⟨Nat.zero_le _, Nat.zero_le _⟩ (dk_at dkX6_rule 21 rfl) ?_
          refine lv_iload_n C.1 C.2.1 (dk_at dkX6_rule 22 rfl) rfl (lv_at hl 0 rfl) ?_
          refine lv_ishl C.1 C.2.1 (dk_at dkX6_rule 23 rfl) ?_
          refine lv_ior C.1 C.2.1 (dk_at dkX6_rule 24 rfl) ?_
          refine lv_topi (fun x15 ex15 => ?_)
          have hf := nm_at ex15 hf
          refine lv_istore_n (lv' := [(2, .int x15), (3, .int v3), (0, .ref (a_m 0)), (1, .int p1)]) C.1 C.2.1 (dk_at dkX6_rule 25 rfl) rfl hl (by decide) rfl (fun ls hl => ?_)
          obtain ⟨x16, ex16⟩ : ∃ z : Int32, z = v3 + 1 := ⟨_, rfl⟩
          have hf := nm_at ex16 hf
          refine lv_iinc (v := x16) (lv' := [(3, .int x16), (2, .int x15), (0, .ref (a_m 0)), (1, .int p1)]) C.1 C.2.1 (dk_at dkX6_rule 26 rfl) hl (k := 1) rfl (by rw [ex16]; rfl) (by decide) rfl (fun ls hl => ?_)
          refine lv_goto (tgt := 8) C.1 C.2.1 (dk_at dkX6_rule 27 rfl) (by decide) ?_
          exact ih x16 x15 _ _ _ w (lv_sub hl [0, 1, 2, 3] rfl) hf
        clear hf
        have hf := hq11
        refine lv_icmp_eq (tgt := 32) C.1 C.2.1 (dk_at dkX6_rule 17 rfl) (by decide) (fun c17 => ?_) (fun c17 => ?_)
        · have hf := (if_pos c17).symm.trans hf
          refine lv_iconst (v := 0) C.1 C.2.1 (dk_at dkX6_rule 20 rfl) (by decide) ?_
          cases hf
          exact J12 _ _ _ w (lv_sub hl [0, 2, 3] rfl)
        · have hf := (if_neg c17).symm.trans hf
          refine lv_iconst (v := 1) C.1 C.2.1 (dk_at dkX6_rule 18 rfl) (by decide) ?_
          refine lv_goto (tgt := 33) C.1 C.2.1 (dk_at dkX6_rule 19 rfl) (by decide) ?_
          cases hf
          exact J12 _ _ _ w (lv_sub hl [0, 2, 3] rfl)
  refine L5 _ ?_ 4096 0 0 _ _ _ w (lv_sub hl [0, 1, 2, 3] rfl) hf
  clear hf
  intro v3 v4 H locs ls w hl hf
  refine lv_iload_n C.1 C.2.1 (dk_at dkX6_rule 28 rfl) rfl (lv_at hl 2 rfl) ?_
  by_cases c18 : p1 = 0
  · have hf := (if_pos c18).symm.trans hf
    refine lv_tableIn (tgt := 76) C.1 C.2.1 (dk_at dkX6_rule 29 rfl) (by rw [c18]; decide) (by rw [c18]; decide) (by rw [c18]; rfl) (by decide) ?_
    refine lv_aload_n C.1 C.2.1 (dk_at dkX6_rule 30 rfl) rfl (lv_at hl 1 rfl) ?_
    refine r_get (v := .ref (a_m 1)) C hK w.1 (fun w h => List.mem_cons_of_mem _ (inlX6 w h)) 0 rfl rfl 0 (by decide) (List.mem_cons_of_mem _ (inr4 _ (List.mem_of_getElem? (i := 4) rfl))) rfl (dk_at dkX6_rule 31 rfl) ?_
    refine lv_bipush (v := 43) C.1 C.2.1 (dk_at dkX6_rule 32 rfl) (by decide) ?_
    refine r_iald (k := 43) (f := st) C hK w.1 1 rfl (in_c (by decide)) (by decide) (dk_at dkX6_rule 33 rfl) ?_
    refine lv_topi (fun x19 ex19 => ?_)
    have hf := nm_at ex19 hf
    cases hf
    exact fin _ _ _ _ _ (dk_at dkX6_rule 34 rfl) rfl w
  have hf := (if_neg c18).symm.trans hf
  by_cases c20 : p1 = 1
  · have hf := (if_pos c20).symm.trans hf
    refine lv_tableIn (tgt := 84) C.1 C.2.1 (dk_at dkX6_rule 29 rfl) (by rw [c20]; decide) (by rw [c20]; decide) (by rw [c20]; rfl) (by decide) ?_
    refine lv_aload_n C.1 C.2.1 (dk_at dkX6_rule 35 rfl) rfl (lv_at hl 1 rfl) ?_
    refine r_get (v := .int hearers) C hK w.1 (fun w h => List.mem_cons_of_mem _ (inlX6 w h)) 0 rfl rfl 3 (by decide) (List.mem_cons_of_mem _ (inr5 _ (List.mem_of_getElem? (i := 8) rfl))) rfl (dk_at dkX6_rule 36 rfl) ?_
    cases hf
    exact fin _ _ _ _ _ (dk_at dkX6_rule 37 rfl) rfl w
  have hf := (if_neg c20).symm.trans hf
  by_cases c21 : p1 = 2
  · have hf := (if_pos c21).symm.trans hf
    refine lv_tableIn (tgt := 89) C.1 C.2.1 (dk_at dkX6_rule 29 rfl) (by rw [c21]; decide) (by rw [c21]; decide) (by rw [c21]; rfl) (by decide) ?_
    refine lv_aload_n C.1 C.2.1 (dk_at dkX6_rule 38 rfl) rfl (lv_at hl 1 rfl) ?_
    obtain ⟨r22, hq23, hf⟩ := bd1_at hf
    refine r_roV (As := []) (rest := []) C (kX6_walls l g a_m st now_1 isKept hearers draft dHearers dWalls toldWinds tape taped pos frm sort value fault wrongAt landed landedIn stepped isThere isAt isNext landSum heardSum allWays ways drawn lanes sizes cells torn before r22 hq23) (cwV0 C (inr17 _ (List.mem_of_getElem? (i := 10) rfl)) mwX6_walls hdX6_walls ⟨Nat.le_of_ble_eq_true rfl, Nat.le_of_ble_eq_true rfl⟩) hK w.1 rfl rfl rfl hl.1 rfl (Nat.le_of_ble_eq_true rfl) ⟨Nat.zero_le _, Nat.zero_le _⟩ (dk_at dkX6_rule 39 rfl) ?_
    cases hf
    exact fin _ _ _ _ _ (dk_at dkX6_rule 40 rfl) rfl w
  have hf := (if_neg c21).symm.trans hf
  by_cases c24 : p1 = 3
  · have hf := (if_pos c24).symm.trans hf
    refine lv_tableIn (tgt := 94) C.1 C.2.1 (dk_at dkX6_rule 29 rfl) (by rw [c24]; decide) (by rw [c24]; decide) (by rw [c24]; rfl) (by decide) ?_
    refine lv_iload_n C.1 C.2.1 (dk_at dkX6_rule 41 rfl) rfl (lv_at hl 0 rfl) ?_
    cases hf
    exact fin _ _ _ _ _ (dk_at dkX6_rule 42 rfl) rfl w
  have hf := (if_neg c24).symm.trans hf
  have c18n : p1.toInt ≠ 0 := fun q => c18 (by rw [← Int32.ofInt_toInt p1, q]; rfl)
  have c20n : p1.toInt ≠ 1 := fun q => c20 (by rw [← Int32.ofInt_toInt p1, q]; rfl)
  have c21n : p1.toInt ≠ 2 := fun q => c21 (by rw [← Int32.ofInt_toInt p1, q]; rfl)
  have c24n : p1.toInt ≠ 3 := fun q => c24 (by rw [← Int32.ofInt_toInt p1, q]; rfl)
  refine lv_tableOut (tgt := 96) C.1 C.2.1 (dk_at dkX6_rule 29 rfl) (by omega) (by decide) ?_
  refine lv_iconst (v := (-1)) C.1 C.2.1 (dk_at dkX6_rule 43 rfl) (by decide) ?_
  cases hf
  exact fin _ _ _ _ _ (dk_at dkX6_rule 44 rfl) rfl w
-- X6.saying
abbrev tbX6_saying : List (Nat × Instr × Nat) := [(0, .aload_n 0, 1), (1, .iload_n 1, 1), (2, .invokevirtual 214, 3), (5, .ifCond .eq 15, 3), (8, .iload_n 2, 1), (9, .i2l, 1), (10, .lconst 0, 1), (11, .ldc2_w 217, 3), (14, .invokestatic 83, 3), (17, .ifCond .ne 5, 3), (20, .iconst (-1), 1), (21, .ireturn, 1), (22, .aload_n 0, 1), (23, .invokevirtual 201, 3), (26, .iload_n 2, 1), (27, .iconst 5, 1), (28, .if_icmp .ge 12, 3), (31, .aload_n 0, 1), (32, .iload_n 1, 1), (33, .iload_n 2, 1), (34, .invokevirtual 181, 3), (37, .goto 8, 3), (40, .aload_n 0, 1), (41, .iload_n 1, 1), (42, .invokevirtual 189, 3), (45, .ireturn, 1)]
theorem dkX6_saying : dk cX6_saying tbX6_saying := dk_of (by decide +kernel)
abbrev cdX6_saying : Cond := Cond.code yX6_saying cX6_saying 3 (some .int)
abbrev rmX6_saying : Room := { frames := 2, cells := 0, slots := 0, locals := 46 }
theorem mwX6_saying : Cond.instanceMethod yX6_saying ∈ wsL_law ∧ Cond.selects RX6 yX6_saying yX6_saying ∈ wsL_law ∧ Cond.initialized RX6 ∈ wsL_law ∧ cdX6_saying ∈ wsL_law := ⟨inr18 _ (List.mem_of_getElem? (i := 6) rfl), inr18 _ (List.mem_of_getElem? (i := 7) rfl), inr1 _ (List.mem_of_getElem? (i := 5) rfl), inr18 _ (List.mem_of_getElem? (i := 8) rfl)⟩
theorem hdX6_saying : yX6_saying.cls = RX6 ∧ yX6_saying.cls ≠ "java/lang/invoke/MethodHandle" ∧ yX6_saying.cls ≠ "java/lang/invoke/VarHandle" ∧ (parseMethodDescriptor yX6_saying.desc).map (fun d => d.parameters.length) = some 2 := by decide +kernel
set_option maxHeartbeats 4000000 in
set_option maxRecDepth 100000 in
theorem kX6_saying (l : Launch) (g : Gx) (sz : Nat) (a_m : Nat → Nat) (st : AI) (now : AI) (isKept : AI) (hearers : Int32) (draft : AI) (dHearers : Int32) (dWalls : Int32) (toldWinds : Int32) (tape : AI) (taped : Int32) (pos : Int32) (frm : Int32) (sort : Int32) (value : Int32) (fault : Int32) (wrongAt : Int32) (landed : AI) (landedIn : AI) (stepped : AI) (isThere : AI) (isAt : AI) (isNext : AI) (landSum : Int64) (heardSum : Int64) (allWays : Int64) (ways : AI) (drawn : AI) (lanes : AI) (sizes : AI) (cells : AI) (torn : Int32) (before : AI) (p1 : Int32) (p2 : Int32) (res : Int32) (now_o : AI) (hf : fX6_saying p1 p2 st now = some (res, now_o)) : Met l yX6_saying (cdX6_saying :: wsL_law) rmX6_saying (va_Pc [.ref (a_m 0), .int p1, .int p2] (RWp g sz (wM g a_m st now isKept hearers draft dHearers dWalls toldWinds tape taped pos frm sort value fault wrongAt landed landedIn stepped isThere isAt isNext landSum heardSum allWays ways drawn lanes sizes cells torn before))) (va_Qi (fun x (_ : Unit) => x = res) (fun _ => RWq g (va_A (wM g a_m st now isKept hearers draft dHearers dWalls toldWinds tape taped pos frm sort value fault wrongAt landed landedIn stepped isThere isAt isNext landSum heardSum allWays ways drawn lanes sizes cells torn before) sz) (wM g a_m st now_o isKept hearers draft dHearers dWalls toldWinds tape taped pos frm sort value fault wrongAt landed landedIn stepped isThere isAt isNext landSum heardSum allWays ways drawn lanes sizes cells torn before)) (va_A (wM g a_m st now isKept hearers draft dHearers dWalls toldWinds tape taped pos frm sort value fault wrongAt landed landedIn stepped isThere isAt isNext landSum heardSum allWays ways drawn lanes sizes cells torn before) sz)) 0 0 (va_A (wM g a_m st now isKept hearers draft dHearers dWalls toldWinds tape taped pos frm sort value fault wrongAt landed landedIn stepped isThere isAt isNext landSum heardSum allWays ways drawn lanes sizes cells torn before) sz) := by
  refine Met_rwi (cc := cX6_saying) (maxL := 3) (by decide) rfl (Nat.le_of_ble_eq_true rfl) ?_
  intro P E Z Mi AR BE ME CO A Q C hK hA fin w ls hl
  have hl : lv_has ls 3 [(0, .ref (a_m 0)), (1, .int p1), (2, .int p2)] := hl
  unfold fX6_saying at hf
  refine lv_aload_n C.1 C.2.1 (dk_at dkX6_saying 0 rfl) rfl (lv_at hl 0 rfl) ?_
  refine lv_iload_n C.1 C.2.1 (dk_at dkX6_saying 1 rfl) rfl (lv_at hl 1 rfl) ?_
  obtain ⟨r1, hq2, hf⟩ := bd1_at hf
  refine r_roV (As := [.int p1]) (rest := []) C (kX6_isSaying l g a_m st now isKept hearers draft dHearers dWalls toldWinds tape taped pos frm sort value fault wrongAt landed landedIn stepped isThere isAt isNext landSum heardSum allWays ways drawn lanes sizes cells torn before p1 r1 hq2) (cwV0 C (inr18 _ (List.mem_of_getElem? (i := 10) rfl)) mwX6_isSaying hdX6_isSaying ⟨Nat.le_of_ble_eq_true rfl, Nat.le_of_ble_eq_true rfl⟩) hK w.1 rfl rfl rfl hl.1 rfl (Nat.le_of_ble_eq_true rfl) ⟨Nat.zero_le _, Nat.zero_le _⟩ (dk_at dkX6_saying 2 rfl) ?_
  refine lv_if_eq (tgt := 20) C.1 C.2.1 (dk_at dkX6_saying 3 rfl) (by decide) (fun c3 => ?_) (fun c3 => ?_)
  · have hf := (if_pos c3).symm.trans hf
    refine lv_iconst (v := (-1)) C.1 C.2.1 (dk_at dkX6_saying 10 rfl) (by decide) ?_
    cases hf
    exact fin _ _ _ _ _ (dk_at dkX6_saying 11 rfl) rfl w
  · have hf := (if_neg c3).symm.trans hf
    refine lv_iload_n C.1 C.2.1 (dk_at dkX6_saying 4 rfl) rfl (lv_at hl 2 rfl) ?_
    refine lv_i2l C.1 C.2.1 (dk_at dkX6_saying 5 rfl) rfl ?_
    refine lv_topl (fun x4 ex4 => ?_)
    have hf := nm_at ex4 hf
    refine lv_lconst (v := 0) C.1 C.2.1 (dk_at dkX6_saying 6 rfl) (by decide) ?_
    refine lv_ldc2 (v := 5) C.1 C.2.1 C.2.2.2.1 (C.2.2.2.2 _ (List.mem_cons_of_mem _ (inr18 _ (List.mem_of_getElem? (i := 9) rfl)))) (dk_at dkX6_saying 7 rfl) ?_
    obtain ⟨r5, hq6, hf⟩ := bd1_at hf
    refine r_st (As := [.long x4, .long 0, .long 5]) (rest := []) C (kX6_in l x4 0 5 r5 hq6) (cwS0 C (inr5 _ (List.mem_of_getElem? (i := 21) rfl)) mwX6_in hdX6_in ⟨Nat.le_of_ble_eq_true rfl, Nat.le_of_ble_eq_true rfl⟩) rfl hl.1 rfl (Nat.le_of_ble_eq_true rfl) ⟨Nat.zero_le _, Nat.zero_le _⟩ (dk_at dkX6_saying 8 rfl) ?_
    refine lv_if_ne (tgt := 22) C.1 C.2.1 (dk_at dkX6_saying 9 rfl) (by decide) (fun c7 => ?_) (fun c7 => ?_)
    · have hf := (if_neg c7).symm.trans hf
      refine lv_aload_n C.1 C.2.1 (dk_at dkX6_saying 12 rfl) rfl (lv_at hl 0 rfl) ?_
      obtain ⟨now_8, hq9, hf⟩ := bd1_at hf
      refine r_rwv (As := []) (rest := []) (wr := []) (ws' := wM g a_m st now_8 isKept hearers draft dHearers dWalls toldWinds tape taped pos frm sort value fault wrongAt landed landedIn stepped isThere isAt isNext landSum heardSum allWays ways drawn lanes sizes cells torn before) C (kX6_starts l g _ a_m st now isKept hearers draft dHearers dWalls toldWinds tape taped pos frm sort value fault wrongAt landed landedIn stepped isThere isAt isNext landSum heardSum allWays ways drawn lanes sizes cells torn before now_8 hq9) (cwV0 C (inr17 _ (List.mem_of_getElem? (i := 3) rfl)) mwX6_starts hdX6_starts ⟨Nat.le_of_ble_eq_true rfl, Nat.le_of_ble_eq_true rfl⟩) hK w hA [0, 1, 2, 3, 4, 5, 6, 7, 8, 9, 10, 11, 12, 13, 14, 15, 16, 17] [] [0, 1, 2, 3, 4, 5, 6, 7, 8, 9, 10, 11, 12, 13, 14, 15, 16, 17] (by decide) rfl rfl (by decide) (by decide) rfl (by decide) rfl rfl rfl hl.1 rfl (Nat.le_of_ble_eq_true rfl) ⟨Nat.zero_le _, Nat.zero_le _⟩ (dk_at dkX6_saying 13 rfl) (fun H locs w => ?_)
      refine lv_iload_n C.1 C.2.1 (dk_at dkX6_saying 14 rfl) rfl (lv_at hl 2 rfl) ?_
      refine lv_iconst (v := 5) C.1 C.2.1 (dk_at dkX6_saying 15 rfl) (by decide) ?_
      refine lv_icmp_ge (tgt := 40) C.1 C.2.1 (dk_at dkX6_saying 16 rfl) (by decide) (fun c10 => ?_) (fun c10 => ?_)
      · have hf := (if_pos c10).symm.trans hf
        refine lv_aload_n C.1 C.2.1 (dk_at dkX6_saying 22 rfl) rfl (lv_at hl 0 rfl) ?_
        refine lv_iload_n C.1 C.2.1 (dk_at dkX6_saying 23 rfl) rfl (lv_at hl 1 rfl) ?_
        obtain ⟨r11, hq12, hf⟩ := bd1_at hf
        refine r_roV (As := [.int p1]) (rest := []) C (kX6_reachOf l g a_m st now_8 isKept hearers draft dHearers dWalls toldWinds tape taped pos frm sort value fault wrongAt landed landedIn stepped isThere isAt isNext landSum heardSum allWays ways drawn lanes sizes cells torn before p1 r11 hq12) (cwV0 C (inr18 _ (List.mem_of_getElem? (i := 18) rfl)) mwX6_reachOf hdX6_reachOf ⟨Nat.le_of_ble_eq_true rfl, Nat.le_of_ble_eq_true rfl⟩) hK w.1 rfl rfl rfl hl.1 rfl (Nat.le_of_ble_eq_true rfl) ⟨Nat.zero_le _, Nat.zero_le _⟩ (dk_at dkX6_saying 24 rfl) ?_
        cases hf
        exact fin _ _ _ _ _ (dk_at dkX6_saying 25 rfl) rfl w
      · have hf := (if_neg c10).symm.trans hf
        refine lv_aload_n C.1 C.2.1 (dk_at dkX6_saying 17 rfl) rfl (lv_at hl 0 rfl) ?_
        refine lv_iload_n C.1 C.2.1 (dk_at dkX6_saying 18 rfl) rfl (lv_at hl 1 rfl) ?_
        refine lv_iload_n C.1 C.2.1 (dk_at dkX6_saying 19 rfl) rfl (lv_at hl 2 rfl) ?_
        obtain ⟨r13, hq14, hf⟩ := bd1_at hf
        refine r_roV (As := [.int p1, .int p2]) (rest := []) C (kX6_of l g a_m st now_8 isKept hearers draft dHearers dWalls toldWinds tape taped pos frm sort value fault wrongAt landed landedIn stepped isThere isAt isNext landSum heardSum allWays ways drawn lanes sizes cells torn before p1 p2 r13 hq14) (cwV0 C (inr18 _ (List.mem_of_getElem? (i := 14) rfl)) mwX6_of hdX6_of ⟨Nat.le_of_ble_eq_true rfl, Nat.le_of_ble_eq_true rfl⟩) hK w.1 rfl rfl rfl hl.1 rfl (Nat.le_of_ble_eq_true rfl) ⟨Nat.zero_le _, Nat.zero_le _⟩ (dk_at dkX6_saying 20 rfl) ?_
        refine lv_goto (tgt := 45) C.1 C.2.1 (dk_at dkX6_saying 21 rfl) (by decide) ?_
        cases hf
        exact fin _ _ _ _ _ (dk_at dkX6_saying 25 rfl) rfl w
    · have hf := (if_pos c7).symm.trans hf
      refine lv_iconst (v := (-1)) C.1 C.2.1 (dk_at dkX6_saying 10 rfl) (by decide) ?_
      cases hf
      exact fin _ _ _ _ _ (dk_at dkX6_saying 11 rfl) rfl w
-- X6.hearer
abbrev tbX6_hearer : List (Nat × Instr × Nat) := [(0, .aload_n 0, 1), (1, .iload_n 1, 1), (2, .invokevirtual 219, 3), (5, .ifCond .eq 15, 3), (8, .aload_n 0, 1), (9, .getfield 7, 3), (12, .bipush 44, 2), (14, .iload_n 1, 1), (15, .iadd, 1), (16, .iaload, 1), (17, .goto 4, 3), (20, .iconst (-1), 1), (21, .ireturn, 1)]
theorem dkX6_hearer : dk cX6_hearer tbX6_hearer := dk_of (by decide +kernel)
abbrev cdX6_hearer : Cond := Cond.code yX6_hearer cX6_hearer 2 (some .int)
abbrev rmX6_hearer : Room := { frames := 2, cells := 0, slots := 0, locals := 46 }
theorem mwX6_hearer : Cond.instanceMethod yX6_hearer ∈ wsL_law ∧ Cond.selects RX6 yX6_hearer yX6_hearer ∈ wsL_law ∧ Cond.initialized RX6 ∈ wsL_law ∧ cdX6_hearer ∈ wsL_law := ⟨inr19 _ (List.mem_of_getElem? (i := 8) rfl), inr19 _ (List.mem_of_getElem? (i := 9) rfl), inr1 _ (List.mem_of_getElem? (i := 5) rfl), inr19 _ (List.mem_of_getElem? (i := 10) rfl)⟩
theorem hdX6_hearer : yX6_hearer.cls = RX6 ∧ yX6_hearer.cls ≠ "java/lang/invoke/MethodHandle" ∧ yX6_hearer.cls ≠ "java/lang/invoke/VarHandle" ∧ (parseMethodDescriptor yX6_hearer.desc).map (fun d => d.parameters.length) = some 1 := by decide +kernel
set_option maxHeartbeats 4000000 in
set_option maxRecDepth 100000 in
theorem kX6_hearer (l : Launch) (g : Gx) (a_m : Nat → Nat) (st : AI) (now : AI) (isKept : AI) (hearers : Int32) (draft : AI) (dHearers : Int32) (dWalls : Int32) (toldWinds : Int32) (tape : AI) (taped : Int32) (pos : Int32) (frm : Int32) (sort : Int32) (value : Int32) (fault : Int32) (wrongAt : Int32) (landed : AI) (landedIn : AI) (stepped : AI) (isThere : AI) (isAt : AI) (isNext : AI) (landSum : Int64) (heardSum : Int64) (allWays : Int64) (ways : AI) (drawn : AI) (lanes : AI) (sizes : AI) (cells : AI) (torn : Int32) (before : AI) (p1 : Int32) (res : Int32) (hf : fX6_hearer p1 st hearers = some res) : Met l yX6_hearer (cdX6_hearer :: wsL_law) rmX6_hearer (va_Pc [.ref (a_m 0), .int p1] (RO g (wM g a_m st now isKept hearers draft dHearers dWalls toldWinds tape taped pos frm sort value fault wrongAt landed landedIn stepped isThere isAt isNext landSum heardSum allWays ways drawn lanes sizes cells torn before))) (vp_Si (fun x => x = res)) 0 0 (fun _ => False) := by
  refine Met_roi (cc := cX6_hearer) (maxL := 2) (by decide) rfl (Nat.le_of_ble_eq_true rfl) ?_
  intro P E Z Mi AR BE ME CO Q C fin hK hP ls hl
  have hl : lv_has ls 2 [(0, .ref (a_m 0)), (1, .int p1)] := hl
  unfold fX6_hearer at hf
  refine lv_aload_n C.1 C.2.1 (dk_at dkX6_hearer 0 rfl) rfl (lv_at hl 0 rfl) ?_
  refine lv_iload_n C.1 C.2.1 (dk_at dkX6_hearer 1 rfl) rfl (lv_at hl 1 rfl) ?_
  obtain ⟨r1, hq2, hf⟩ := bd1_at hf
  refine r_roV (As := [.int p1]) (rest := []) C (kX6_isHearer l g a_m st now isKept hearers draft dHearers dWalls toldWinds tape taped pos frm sort value fault wrongAt landed landedIn stepped isThere isAt isNext landSum heardSum allWays ways drawn lanes sizes cells torn before p1 r1 hq2) (cwV0 C (inr19 _ (List.mem_of_getElem? (i := 11) rfl)) mwX6_isHearer hdX6_isHearer ⟨Nat.le_of_ble_eq_true rfl, Nat.le_of_ble_eq_true rfl⟩) hK hP rfl rfl rfl hl.1 rfl (Nat.le_of_ble_eq_true rfl) ⟨Nat.zero_le _, Nat.zero_le _⟩ (dk_at dkX6_hearer 2 rfl) ?_
  refine lv_if_eq (tgt := 20) C.1 C.2.1 (dk_at dkX6_hearer 3 rfl) (by decide) (fun c3 => ?_) (fun c3 => ?_)
  · have hf := (if_pos c3).symm.trans hf
    refine lv_iconst (v := (-1)) C.1 C.2.1 (dk_at dkX6_hearer 11 rfl) (by decide) ?_
    cases hf
    exact fin _ _ _ (dk_at dkX6_hearer 12 rfl) rfl
  · have hf := (if_neg c3).symm.trans hf
    refine lv_aload_n C.1 C.2.1 (dk_at dkX6_hearer 4 rfl) rfl (lv_at hl 0 rfl) ?_
    refine r_get (v := .ref (a_m 1)) C hK hP (fun w h => List.mem_cons_of_mem _ (inlX6 w h)) 0 rfl rfl 0 (by decide) (List.mem_cons_of_mem _ (inr4 _ (List.mem_of_getElem? (i := 4) rfl))) rfl (dk_at dkX6_hearer 5 rfl) ?_
    refine lv_bipush (v := 44) C.1 C.2.1 (dk_at dkX6_hearer 6 rfl) (by decide) ?_
    refine lv_iload_n C.1 C.2.1 (dk_at dkX6_hearer 7 rfl) rfl (lv_at hl 1 rfl) ?_
    refine lv_iadd C.1 C.2.1 (dk_at dkX6_hearer 8 rfl) ?_
    refine lv_topi (fun x4 ex4 => ?_)
    have hf := nm_at ex4 hf
    obtain ⟨h5, hf⟩ := gd_at hf
    refine r_iald (k := x4.toNatClampNeg) (f := st) C hK hP 1 rfl h5 rfl (dk_at dkX6_hearer 9 rfl) ?_
    refine lv_topi (fun x6 ex6 => ?_)
    have hf := nm_at ex6 hf
    refine lv_goto (tgt := 21) C.1 C.2.1 (dk_at dkX6_hearer 10 rfl) (by decide) ?_
    cases hf
    exact fin _ _ _ (dk_at dkX6_hearer 12 rfl) rfl
-- X6.wall
abbrev tbX6_wall : List (Nat × Instr × Nat) := [(0, .iload_n 1, 1), (1, .invokestatic 140, 3), (4, .ifCond .ne 5, 3), (7, .iconst (-1), 1), (8, .ireturn, 1), (9, .aload_n 0, 1), (10, .invokevirtual 201, 3), (13, .aload_n 0, 1), (14, .iload_n 1, 1), (15, .invokevirtual 192, 3), (18, .invokestatic 207, 3), (21, .ireturn, 1)]
theorem dkX6_wall : dk cX6_wall tbX6_wall := dk_of (by decide +kernel)
abbrev cdX6_wall : Cond := Cond.code yX6_wall cX6_wall 2 (some .int)
abbrev rmX6_wall : Room := { frames := 1, cells := 0, slots := 0, locals := 21 }
theorem mwX6_wall : Cond.instanceMethod yX6_wall ∈ wsL_law ∧ Cond.selects RX6 yX6_wall yX6_wall ∈ wsL_law ∧ Cond.initialized RX6 ∈ wsL_law ∧ cdX6_wall ∈ wsL_law := ⟨inr19 _ (List.mem_of_getElem? (i := 23) rfl), inr20 _ (List.mem_of_getElem? (i := 0) rfl), inr1 _ (List.mem_of_getElem? (i := 5) rfl), inr20 _ (List.mem_of_getElem? (i := 1) rfl)⟩
theorem hdX6_wall : yX6_wall.cls = RX6 ∧ yX6_wall.cls ≠ "java/lang/invoke/MethodHandle" ∧ yX6_wall.cls ≠ "java/lang/invoke/VarHandle" ∧ (parseMethodDescriptor yX6_wall.desc).map (fun d => d.parameters.length) = some 1 := by decide +kernel
set_option maxHeartbeats 4000000 in
set_option maxRecDepth 100000 in
theorem kX6_wall (l : Launch) (g : Gx) (sz : Nat) (a_m : Nat → Nat) (st : AI) (now : AI) (isKept : AI) (hearers : Int32) (draft : AI) (dHearers : Int32) (dWalls : Int32) (toldWinds : Int32) (tape : AI) (taped : Int32) (pos : Int32) (frm : Int32) (sort : Int32) (value : Int32) (fault : Int32) (wrongAt : Int32) (landed : AI) (landedIn : AI) (stepped : AI) (isThere : AI) (isAt : AI) (isNext : AI) (landSum : Int64) (heardSum : Int64) (allWays : Int64) (ways : AI) (drawn : AI) (lanes : AI) (sizes : AI) (cells : AI) (torn : Int32) (before : AI) (p1 : Int32) (res : Int32) (now_o : AI) (hf : fX6_wall p1 st now = some (res, now_o)) : Met l yX6_wall (cdX6_wall :: wsL_law) rmX6_wall (va_Pc [.ref (a_m 0), .int p1] (RWp g sz (wM g a_m st now isKept hearers draft dHearers dWalls toldWinds tape taped pos frm sort value fault wrongAt landed landedIn stepped isThere isAt isNext landSum heardSum allWays ways drawn lanes sizes cells torn before))) (va_Qi (fun x (_ : Unit) => x = res) (fun _ => RWq g (va_A (wM g a_m st now isKept hearers draft dHearers dWalls toldWinds tape taped pos frm sort value fault wrongAt landed landedIn stepped isThere isAt isNext landSum heardSum allWays ways drawn lanes sizes cells torn before) sz) (wM g a_m st now_o isKept hearers draft dHearers dWalls toldWinds tape taped pos frm sort value fault wrongAt landed landedIn stepped isThere isAt isNext landSum heardSum allWays ways drawn lanes sizes cells torn before)) (va_A (wM g a_m st now isKept hearers draft dHearers dWalls toldWinds tape taped pos frm sort value fault wrongAt landed landedIn stepped isThere isAt isNext landSum heardSum allWays ways drawn lanes sizes cells torn before) sz)) 0 0 (va_A (wM g a_m st now isKept hearers draft dHearers dWalls toldWinds tape taped pos frm sort value fault wrongAt landed landedIn stepped isThere isAt isNext landSum heardSum allWays ways drawn lanes sizes cells torn before) sz) := by
  refine Met_rwi (cc := cX6_wall) (maxL := 2) (by decide) rfl (Nat.le_of_ble_eq_true rfl) ?_
  intro P E Z Mi AR BE ME CO A Q C hK hA fin w ls hl
  have hl : lv_has ls 2 [(0, .ref (a_m 0)), (1, .int p1)] := hl
  unfold fX6_wall at hf
  refine lv_iload_n C.1 C.2.1 (dk_at dkX6_wall 0 rfl) rfl (lv_at hl 1 rfl) ?_
  obtain ⟨r1, hq2, hf⟩ := bd1_at hf
  refine r_st (As := [.int p1]) (rest := []) C (kX6_isCell l p1 r1 hq2) (cwS0 C (inr15 _ (List.mem_of_getElem? (i := 8) rfl)) mwX6_isCell hdX6_isCell ⟨Nat.le_of_ble_eq_true rfl, Nat.le_of_ble_eq_true rfl⟩) rfl hl.1 rfl (Nat.le_of_ble_eq_true rfl) ⟨Nat.zero_le _, Nat.zero_le _⟩ (dk_at dkX6_wall 1 rfl) ?_
  refine lv_if_ne (tgt := 9) C.1 C.2.1 (dk_at dkX6_wall 2 rfl) (by decide) (fun c3 => ?_) (fun c3 => ?_)
  · have hf := (if_neg c3).symm.trans hf
    refine lv_aload_n C.1 C.2.1 (dk_at dkX6_wall 5 rfl) rfl (lv_at hl 0 rfl) ?_
    obtain ⟨now_4, hq5, hf⟩ := bd1_at hf
    refine r_rwv (As := []) (rest := []) (wr := []) (ws' := wM g a_m st now_4 isKept hearers draft dHearers dWalls toldWinds tape taped pos frm sort value fault wrongAt landed landedIn stepped isThere isAt isNext landSum heardSum allWays ways drawn lanes sizes cells torn before) C (kX6_starts l g _ a_m st now isKept hearers draft dHearers dWalls toldWinds tape taped pos frm sort value fault wrongAt landed landedIn stepped isThere isAt isNext landSum heardSum allWays ways drawn lanes sizes cells torn before now_4 hq5) (cwV0 C (inr17 _ (List.mem_of_getElem? (i := 3) rfl)) mwX6_starts hdX6_starts ⟨Nat.le_of_ble_eq_true rfl, Nat.le_of_ble_eq_true rfl⟩) hK w hA [0, 1, 2, 3, 4, 5, 6, 7, 8, 9, 10, 11, 12, 13, 14, 15, 16, 17] [] [0, 1, 2, 3, 4, 5, 6, 7, 8, 9, 10, 11, 12, 13, 14, 15, 16, 17] (by decide) rfl rfl (by decide) (by decide) rfl (by decide) rfl rfl rfl hl.1 rfl (Nat.le_of_ble_eq_true rfl) ⟨Nat.zero_le _, Nat.zero_le _⟩ (dk_at dkX6_wall 6 rfl) (fun H locs w => ?_)
    refine lv_aload_n C.1 C.2.1 (dk_at dkX6_wall 7 rfl) rfl (lv_at hl 0 rfl) ?_
    refine lv_iload_n C.1 C.2.1 (dk_at dkX6_wall 8 rfl) rfl (lv_at hl 1 rfl) ?_
    obtain ⟨r6, hq7, hf⟩ := bd1_at hf
    refine r_roV (As := [.int p1]) (rest := []) C (kX6_isWall l g a_m st now_4 isKept hearers draft dHearers dWalls toldWinds tape taped pos frm sort value fault wrongAt landed landedIn stepped isThere isAt isNext landSum heardSum allWays ways drawn lanes sizes cells torn before p1 r6 hq7) (cwV0 C (inr20 _ (List.mem_of_getElem? (i := 2) rfl)) mwX6_isWall hdX6_isWall ⟨Nat.le_of_ble_eq_true rfl, Nat.le_of_ble_eq_true rfl⟩) hK w.1 rfl rfl rfl hl.1 rfl (Nat.le_of_ble_eq_true rfl) ⟨Nat.zero_le _, Nat.zero_le _⟩ (dk_at dkX6_wall 9 rfl) ?_
    obtain ⟨r8, hq9, hf⟩ := bd1_at hf
    refine r_st (As := [.int r6]) (rest := []) C (kX6_flag l r6 r8 hq9) (cwS0 C (inr17 _ (List.mem_of_getElem? (i := 7) rfl)) mwX6_flag hdX6_flag ⟨Nat.le_of_ble_eq_true rfl, Nat.le_of_ble_eq_true rfl⟩) rfl hl.1 rfl (Nat.le_of_ble_eq_true rfl) ⟨Nat.zero_le _, Nat.zero_le _⟩ (dk_at dkX6_wall 10 rfl) ?_
    cases hf
    exact fin _ _ _ _ _ (dk_at dkX6_wall 11 rfl) rfl w
  · have hf := (if_pos c3).symm.trans hf
    refine lv_iconst (v := (-1)) C.1 C.2.1 (dk_at dkX6_wall 3 rfl) (by decide) ?_
    cases hf
    exact fin _ _ _ _ _ (dk_at dkX6_wall 4 rfl) rfl w
-- X6.wind
abbrev tbX6_wind : List (Nat × Instr × Nat) := [(0, .iload_n 1, 1), (1, .i2l, 1), (2, .lconst 0, 1), (3, .ldc2_w 222, 3), (6, .invokestatic 83, 3), (9, .ifCond .eq 15, 3), (12, .aload_n 0, 1), (13, .getfield 7, 3), (16, .bipush 8, 2), (18, .iload_n 1, 1), (19, .iadd, 1), (20, .iaload, 1), (21, .goto 4, 3), (24, .iconst (-1), 1), (25, .ireturn, 1)]
theorem dkX6_wind : dk cX6_wind tbX6_wind := dk_of (by decide +kernel)
abbrev cdX6_wind : Cond := Cond.code yX6_wind cX6_wind 2 (some .int)
abbrev rmX6_wind : Room := { frames := 1, cells := 0, slots := 0, locals := 25 }
theorem mwX6_wind : Cond.instanceMethod yX6_wind ∈ wsL_law ∧ Cond.selects RX6 yX6_wind yX6_wind ∈ wsL_law ∧ Cond.initialized RX6 ∈ wsL_law ∧ cdX6_wind ∈ wsL_law := ⟨inr20 _ (List.mem_of_getElem? (i := 13) rfl), inr20 _ (List.mem_of_getElem? (i := 14) rfl), inr1 _ (List.mem_of_getElem? (i := 5) rfl), inr20 _ (List.mem_of_getElem? (i := 15) rfl)⟩
theorem hdX6_wind : yX6_wind.cls = RX6 ∧ yX6_wind.cls ≠ "java/lang/invoke/MethodHandle" ∧ yX6_wind.cls ≠ "java/lang/invoke/VarHandle" ∧ (parseMethodDescriptor yX6_wind.desc).map (fun d => d.parameters.length) = some 1 := by decide +kernel
set_option maxHeartbeats 4000000 in
set_option maxRecDepth 100000 in
theorem kX6_wind (l : Launch) (g : Gx) (a_m : Nat → Nat) (st : AI) (now : AI) (isKept : AI) (hearers : Int32) (draft : AI) (dHearers : Int32) (dWalls : Int32) (toldWinds : Int32) (tape : AI) (taped : Int32) (pos : Int32) (frm : Int32) (sort : Int32) (value : Int32) (fault : Int32) (wrongAt : Int32) (landed : AI) (landedIn : AI) (stepped : AI) (isThere : AI) (isAt : AI) (isNext : AI) (landSum : Int64) (heardSum : Int64) (allWays : Int64) (ways : AI) (drawn : AI) (lanes : AI) (sizes : AI) (cells : AI) (torn : Int32) (before : AI) (p1 : Int32) (res : Int32) (hf : fX6_wind p1 st = some res) : Met l yX6_wind (cdX6_wind :: wsL_law) rmX6_wind (va_Pc [.ref (a_m 0), .int p1] (RO g (wM g a_m st now isKept hearers draft dHearers dWalls toldWinds tape taped pos frm sort value fault wrongAt landed landedIn stepped isThere isAt isNext landSum heardSum allWays ways drawn lanes sizes cells torn before))) (vp_Si (fun x => x = res)) 0 0 (fun _ => False) := by
  refine Met_roi (cc := cX6_wind) (maxL := 2) (by decide) rfl (Nat.le_of_ble_eq_true rfl) ?_
  intro P E Z Mi AR BE ME CO Q C fin hK hP ls hl
  have hl : lv_has ls 2 [(0, .ref (a_m 0)), (1, .int p1)] := hl
  unfold fX6_wind at hf
  refine lv_iload_n C.1 C.2.1 (dk_at dkX6_wind 0 rfl) rfl (lv_at hl 1 rfl) ?_
  refine lv_i2l C.1 C.2.1 (dk_at dkX6_wind 1 rfl) rfl ?_
  refine lv_topl (fun x1 ex1 => ?_)
  have hf := nm_at ex1 hf
  refine lv_lconst (v := 0) C.1 C.2.1 (dk_at dkX6_wind 2 rfl) (by decide) ?_
  refine lv_ldc2 (v := 9) C.1 C.2.1 C.2.2.2.1 (C.2.2.2.2 _ (List.mem_cons_of_mem _ (inr20 _ (List.mem_of_getElem? (i := 16) rfl)))) (dk_at dkX6_wind 3 rfl) ?_
  obtain ⟨r2, hq3, hf⟩ := bd1_at hf
  refine r_st (As := [.long x1, .long 0, .long 9]) (rest := []) C (kX6_in l x1 0 9 r2 hq3) (cwS0 C (inr5 _ (List.mem_of_getElem? (i := 21) rfl)) mwX6_in hdX6_in ⟨Nat.le_of_ble_eq_true rfl, Nat.le_of_ble_eq_true rfl⟩) rfl hl.1 rfl (Nat.le_of_ble_eq_true rfl) ⟨Nat.zero_le _, Nat.zero_le _⟩ (dk_at dkX6_wind 4 rfl) ?_
  refine lv_if_eq (tgt := 24) C.1 C.2.1 (dk_at dkX6_wind 5 rfl) (by decide) (fun c4 => ?_) (fun c4 => ?_)
  · have hf := (if_pos c4).symm.trans hf
    refine lv_iconst (v := (-1)) C.1 C.2.1 (dk_at dkX6_wind 13 rfl) (by decide) ?_
    cases hf
    exact fin _ _ _ (dk_at dkX6_wind 14 rfl) rfl
  · have hf := (if_neg c4).symm.trans hf
    refine lv_aload_n C.1 C.2.1 (dk_at dkX6_wind 6 rfl) rfl (lv_at hl 0 rfl) ?_
    refine r_get (v := .ref (a_m 1)) C hK hP (fun w h => List.mem_cons_of_mem _ (inlX6 w h)) 0 rfl rfl 0 (by decide) (List.mem_cons_of_mem _ (inr4 _ (List.mem_of_getElem? (i := 4) rfl))) rfl (dk_at dkX6_wind 7 rfl) ?_
    refine lv_bipush (v := 8) C.1 C.2.1 (dk_at dkX6_wind 8 rfl) (by decide) ?_
    refine lv_iload_n C.1 C.2.1 (dk_at dkX6_wind 9 rfl) rfl (lv_at hl 1 rfl) ?_
    refine lv_iadd C.1 C.2.1 (dk_at dkX6_wind 10 rfl) ?_
    refine lv_topi (fun x5 ex5 => ?_)
    have hf := nm_at ex5 hf
    obtain ⟨h6, hf⟩ := gd_at hf
    refine r_iald (k := x5.toNatClampNeg) (f := st) C hK hP 1 rfl h6 rfl (dk_at dkX6_wind 11 rfl) ?_
    refine lv_topi (fun x7 ex7 => ?_)
    have hf := nm_at ex7 hf
    refine lv_goto (tgt := 25) C.1 C.2.1 (dk_at dkX6_wind 12 rfl) (by decide) ?_
    cases hf
    exact fin _ _ _ (dk_at dkX6_wind 14 rfl) rfl
-- X6.becomes
abbrev tbX6_becomes : List (Nat × Instr × Nat) := [(0, .aload_n 0, 1), (1, .getfield 7, 3), (4, .iload_n 1, 1), (5, .iaload, 1), (6, .istore_n 3, 1), (7, .aload_n 0, 1), (8, .getfield 7, 3), (11, .iload_n 1, 1), (12, .iload_n 2, 1), (13, .iastore, 1), (14, .iload_n 3, 1), (15, .ireturn, 1)]
theorem dkX6_becomes : dk cX6_becomes tbX6_becomes := dk_of (by decide +kernel)
abbrev cdX6_becomes : Cond := Cond.code yX6_becomes cX6_becomes 4 (some .int)
abbrev rmX6_becomes : Room := { frames := 0, cells := 0, slots := 0, locals := 0 }
theorem mwX6_becomes : Cond.instanceMethod yX6_becomes ∈ wsL_law ∧ Cond.selects RX6 yX6_becomes yX6_becomes ∈ wsL_law ∧ Cond.initialized RX6 ∈ wsL_law ∧ cdX6_becomes ∈ wsL_law := ⟨inr21 _ (List.mem_of_getElem? (i := 6) rfl), inr21 _ (List.mem_of_getElem? (i := 7) rfl), inr1 _ (List.mem_of_getElem? (i := 5) rfl), inr21 _ (List.mem_of_getElem? (i := 8) rfl)⟩
theorem hdX6_becomes : yX6_becomes.cls = RX6 ∧ yX6_becomes.cls ≠ "java/lang/invoke/MethodHandle" ∧ yX6_becomes.cls ≠ "java/lang/invoke/VarHandle" ∧ (parseMethodDescriptor yX6_becomes.desc).map (fun d => d.parameters.length) = some 2 := by decide +kernel
set_option maxHeartbeats 4000000 in
set_option maxRecDepth 100000 in
theorem kX6_becomes (l : Launch) (g : Gx) (sz : Nat) (a_m : Nat → Nat) (st : AI) (now : AI) (isKept : AI) (hearers : Int32) (draft : AI) (dHearers : Int32) (dWalls : Int32) (toldWinds : Int32) (tape : AI) (taped : Int32) (pos : Int32) (frm : Int32) (sort : Int32) (value : Int32) (fault : Int32) (wrongAt : Int32) (landed : AI) (landedIn : AI) (stepped : AI) (isThere : AI) (isAt : AI) (isNext : AI) (landSum : Int64) (heardSum : Int64) (allWays : Int64) (ways : AI) (drawn : AI) (lanes : AI) (sizes : AI) (cells : AI) (torn : Int32) (before : AI) (p1 : Int32) (p2 : Int32) (res : Int32) (st_o : AI) (hf : fX6_becomes p1 p2 st = some (res, st_o)) : Met l yX6_becomes (cdX6_becomes :: wsL_law) rmX6_becomes (va_Pc [.ref (a_m 0), .int p1, .int p2] (RWp g sz (wM g a_m st now isKept hearers draft dHearers dWalls toldWinds tape taped pos frm sort value fault wrongAt landed landedIn stepped isThere isAt isNext landSum heardSum allWays ways drawn lanes sizes cells torn before))) (va_Qi (fun x (_ : Unit) => x = res) (fun _ => RWq g (va_A (wM g a_m st now isKept hearers draft dHearers dWalls toldWinds tape taped pos frm sort value fault wrongAt landed landedIn stepped isThere isAt isNext landSum heardSum allWays ways drawn lanes sizes cells torn before) sz) (wM g a_m st_o now isKept hearers draft dHearers dWalls toldWinds tape taped pos frm sort value fault wrongAt landed landedIn stepped isThere isAt isNext landSum heardSum allWays ways drawn lanes sizes cells torn before)) (va_A (wM g a_m st now isKept hearers draft dHearers dWalls toldWinds tape taped pos frm sort value fault wrongAt landed landedIn stepped isThere isAt isNext landSum heardSum allWays ways drawn lanes sizes cells torn before) sz)) 0 0 (va_A (wM g a_m st now isKept hearers draft dHearers dWalls toldWinds tape taped pos frm sort value fault wrongAt landed landedIn stepped isThere isAt isNext landSum heardSum allWays ways drawn lanes sizes cells torn before) sz) := by
  refine Met_rwi (cc := cX6_becomes) (maxL := 4) (by decide) rfl (Nat.le_of_ble_eq_true rfl) ?_
  intro P E Z Mi AR BE ME CO A Q C hK hA fin w ls hl
  have hl : lv_has ls 4 [(0, .ref (a_m 0)), (1, .int p1), (2, .int p2)] := hl
  unfold fX6_becomes at hf
  refine lv_aload_n C.1 C.2.1 (dk_at dkX6_becomes 0 rfl) rfl (lv_at hl 0 rfl) ?_
  refine r_get (v := .ref (a_m 1)) C hK w.1 (fun w h => List.mem_cons_of_mem _ (inlX6 w h)) 0 rfl rfl 0 (by decide) (List.mem_cons_of_mem _ (inr4 _ (List.mem_of_getElem? (i := 4) rfl))) rfl (dk_at dkX6_becomes 1 rfl) ?_
  refine lv_iload_n C.1 C.2.1 (dk_at dkX6_becomes 2 rfl) rfl (lv_at hl 1 rfl) ?_
  obtain ⟨h1, hf⟩ := gd_at hf
  refine r_iald (k := p1.toNatClampNeg) (f := st) C hK w.1 1 rfl h1 rfl (dk_at dkX6_becomes 3 rfl) ?_
  refine lv_topi (fun x2 ex2 => ?_)
  have hf := nm_at ex2 hf
  refine lv_istore_n (lv' := [(3, .int x2), (0, .ref (a_m 0)), (1, .int p1), (2, .int p2)]) C.1 C.2.1 (dk_at dkX6_becomes 4 rfl) rfl hl (by decide) rfl (fun ls hl => ?_)
  refine lv_aload_n C.1 C.2.1 (dk_at dkX6_becomes 5 rfl) rfl (lv_at hl 1 rfl) ?_
  refine r_get (v := .ref (a_m 1)) C hK w.1 (fun w h => List.mem_cons_of_mem _ (inlX6 w h)) 0 rfl rfl 0 (by decide) (List.mem_cons_of_mem _ (inr4 _ (List.mem_of_getElem? (i := 4) rfl))) rfl (dk_at dkX6_becomes 6 rfl) ?_
  refine lv_iload_n C.1 C.2.1 (dk_at dkX6_becomes 7 rfl) rfl (lv_at hl 2 rfl) ?_
  refine lv_iload_n C.1 C.2.1 (dk_at dkX6_becomes 8 rfl) rfl (lv_at hl 3 rfl) ?_
  obtain ⟨h3, hf⟩ := gd_at hf
  refine r_iast (k := p1.toNatClampNeg) (f := st) C hK w 1 rfl h3 rfl (dk_at dkX6_becomes 9 rfl) (fun H locs w => ?_)
  obtain ⟨st_4, est_4⟩ : ∃ z : AI, z = upd st p1.toNatClampNeg p2 := ⟨_, rfl⟩
  have hf := nm_at est_4 hf
  have w : Wd g A Z.heap (wM g a_m st_4 now isKept hearers draft dHearers dWalls toldWinds tape taped pos frm sort value fault wrongAt landed landedIn stepped isThere isAt isNext landSum heardSum allWays ways drawn lanes sizes cells torn before) H locs := by rw [est_4]; exact w
  refine lv_iload_n C.1 C.2.1 (dk_at dkX6_becomes 10 rfl) rfl (lv_at hl 0 rfl) ?_
  cases hf
  exact fin _ _ _ _ _ (dk_at dkX6_becomes 11 rfl) rfl w
-- X6.canBe
abbrev tbX6_canBe : List (Nat × Instr × Nat) := [(0, .iload_n 0, 1), (1, .tableswitch 80 0 4 #[35, 45, 50, 60, 70], 35), (36, .iload_n 1, 1), (37, .i2l, 1), (38, .lconst 0, 1), (39, .ldc2_w 224, 3), (42, .invokestatic 83, 3), (45, .ireturn, 1), (46, .iload_n 1, 1), (47, .invokestatic 140, 3), (50, .ireturn, 1), (51, .iload_n 1, 1), (52, .i2l, 1), (53, .lconst 0, 1), (54, .ldc2_w 224, 3), (57, .invokestatic 83, 3), (60, .ireturn, 1), (61, .iload_n 1, 1), (62, .i2l, 1), (63, .lconst 1, 1), (64, .ldc2_w 222, 3), (67, .invokestatic 83, 3), (70, .ireturn, 1), (71, .iload_n 1, 1), (72, .i2l, 1), (73, .lconst 0, 1), (74, .ldc2_w 222, 3), (77, .invokestatic 83, 3), (80, .ireturn, 1), (81, .iconst 0, 1), (82, .ireturn, 1)]
theorem dkX6_canBe : dk cX6_canBe tbX6_canBe := dk_of (by decide +kernel)
abbrev cdX6_canBe : Cond := Cond.code yX6_canBe cX6_canBe 2 (some .boolean)
abbrev rmX6_canBe : Room := { frames := 1, cells := 0, slots := 0, locals := 25 }
theorem mwX6_canBe : Cond.static yX6_canBe ∈ wsL_law ∧ Cond.initialized yX6_canBe.cls ∈ wsL_law ∧ cdX6_canBe ∈ wsL_law := ⟨inr21 _ (List.mem_of_getElem? (i := 2) rfl), inr1 _ (List.mem_of_getElem? (i := 5) rfl), inr21 _ (List.mem_of_getElem? (i := 3) rfl)⟩
theorem hdX6_canBe : yX6_canBe.cls ≠ "java/lang/invoke/MethodHandle" ∧ yX6_canBe.cls ≠ "java/lang/invoke/VarHandle" ∧ (parseMethodDescriptor yX6_canBe.desc).map (fun d => d.parameters.length) = some 2 := by decide +kernel
set_option maxHeartbeats 4000000 in
set_option maxRecDepth 100000 in
theorem kX6_canBe (l : Launch) (p1 : Int32) (p2 : Int32) (res : Int32) (hf : fX6_canBe p1 p2 = some res) : Met l yX6_canBe (cdX6_canBe :: wsL_law) rmX6_canBe (va_Pc [.int p1, .int p2] (fun _ => True)) (vp_Si (fun x => x = res)) 0 0 (fun _ => False) := by
  refine Met_stz (cc := cX6_canBe) (maxL := 2) (by decide) rfl (Nat.le_of_ble_eq_true rfl) ?_
  intro P E Z Mi AR BE ME CO Q C fin ls hl
  have hl : lv_has ls 2 [(0, .int p1), (1, .int p2)] := hl
  unfold fX6_canBe at hf
  refine lv_iload_n C.1 C.2.1 (dk_at dkX6_canBe 0 rfl) rfl (lv_at hl 0 rfl) ?_
  by_cases c1 : p1 = 0
  · have hf := (if_pos c1).symm.trans hf
    refine lv_tableIn (tgt := 36) C.1 C.2.1 (dk_at dkX6_canBe 1 rfl) (by rw [c1]; decide) (by rw [c1]; decide) (by rw [c1]; rfl) (by decide) ?_
    refine lv_iload_n C.1 C.2.1 (dk_at dkX6_canBe 2 rfl) rfl (lv_at hl 1 rfl) ?_
    refine lv_i2l C.1 C.2.1 (dk_at dkX6_canBe 3 rfl) rfl ?_
    refine lv_topl (fun x2 ex2 => ?_)
    have hf := nm_at ex2 hf
    refine lv_lconst (v := 0) C.1 C.2.1 (dk_at dkX6_canBe 4 rfl) (by decide) ?_
    refine lv_ldc2 (v := 3) C.1 C.2.1 C.2.2.2.1 (C.2.2.2.2 _ (List.mem_cons_of_mem _ (inr21 _ (List.mem_of_getElem? (i := 4) rfl)))) (dk_at dkX6_canBe 5 rfl) ?_
    obtain ⟨r3, hq4, hf⟩ := bd1_at hf
    refine r_st (As := [.long x2, .long 0, .long 3]) (rest := []) C (kX6_in l x2 0 3 r3 hq4) (cwS0 C (inr5 _ (List.mem_of_getElem? (i := 21) rfl)) mwX6_in hdX6_in ⟨Nat.le_of_ble_eq_true rfl, Nat.le_of_ble_eq_true rfl⟩) rfl hl.1 rfl (Nat.le_of_ble_eq_true rfl) ⟨Nat.zero_le _, Nat.zero_le _⟩ (dk_at dkX6_canBe 6 rfl) ?_
    obtain ⟨h5, hf⟩ := gb_at hf
    cases hf
    exact fin _ _ _ (dk_at dkX6_canBe 7 rfl) h5 rfl
  have hf := (if_neg c1).symm.trans hf
  by_cases c6 : p1 = 1
  · have hf := (if_pos c6).symm.trans hf
    refine lv_tableIn (tgt := 46) C.1 C.2.1 (dk_at dkX6_canBe 1 rfl) (by rw [c6]; decide) (by rw [c6]; decide) (by rw [c6]; rfl) (by decide) ?_
    refine lv_iload_n C.1 C.2.1 (dk_at dkX6_canBe 8 rfl) rfl (lv_at hl 1 rfl) ?_
    obtain ⟨r7, hq8, hf⟩ := bd1_at hf
    refine r_st (As := [.int p2]) (rest := []) C (kX6_isCell l p2 r7 hq8) (cwS0 C (inr15 _ (List.mem_of_getElem? (i := 8) rfl)) mwX6_isCell hdX6_isCell ⟨Nat.le_of_ble_eq_true rfl, Nat.le_of_ble_eq_true rfl⟩) rfl hl.1 rfl (Nat.le_of_ble_eq_true rfl) ⟨Nat.zero_le _, Nat.zero_le _⟩ (dk_at dkX6_canBe 9 rfl) ?_
    obtain ⟨h9, hf⟩ := gb_at hf
    cases hf
    exact fin _ _ _ (dk_at dkX6_canBe 10 rfl) h9 rfl
  have hf := (if_neg c6).symm.trans hf
  by_cases c10 : p1 = 2
  · have hf := (if_pos c10).symm.trans hf
    refine lv_tableIn (tgt := 51) C.1 C.2.1 (dk_at dkX6_canBe 1 rfl) (by rw [c10]; decide) (by rw [c10]; decide) (by rw [c10]; rfl) (by decide) ?_
    refine lv_iload_n C.1 C.2.1 (dk_at dkX6_canBe 11 rfl) rfl (lv_at hl 1 rfl) ?_
    refine lv_i2l C.1 C.2.1 (dk_at dkX6_canBe 12 rfl) rfl ?_
    refine lv_topl (fun x11 ex11 => ?_)
    have hf := nm_at ex11 hf
    refine lv_lconst (v := 0) C.1 C.2.1 (dk_at dkX6_canBe 13 rfl) (by decide) ?_
    refine lv_ldc2 (v := 3) C.1 C.2.1 C.2.2.2.1 (C.2.2.2.2 _ (List.mem_cons_of_mem _ (inr21 _ (List.mem_of_getElem? (i := 4) rfl)))) (dk_at dkX6_canBe 14 rfl) ?_
    obtain ⟨r12, hq13, hf⟩ := bd1_at hf
    refine r_st (As := [.long x11, .long 0, .long 3]) (rest := []) C (kX6_in l x11 0 3 r12 hq13) (cwS0 C (inr5 _ (List.mem_of_getElem? (i := 21) rfl)) mwX6_in hdX6_in ⟨Nat.le_of_ble_eq_true rfl, Nat.le_of_ble_eq_true rfl⟩) rfl hl.1 rfl (Nat.le_of_ble_eq_true rfl) ⟨Nat.zero_le _, Nat.zero_le _⟩ (dk_at dkX6_canBe 15 rfl) ?_
    obtain ⟨h14, hf⟩ := gb_at hf
    cases hf
    exact fin _ _ _ (dk_at dkX6_canBe 16 rfl) h14 rfl
  have hf := (if_neg c10).symm.trans hf
  by_cases c15 : p1 = 3
  · have hf := (if_pos c15).symm.trans hf
    refine lv_tableIn (tgt := 61) C.1 C.2.1 (dk_at dkX6_canBe 1 rfl) (by rw [c15]; decide) (by rw [c15]; decide) (by rw [c15]; rfl) (by decide) ?_
    refine lv_iload_n C.1 C.2.1 (dk_at dkX6_canBe 17 rfl) rfl (lv_at hl 1 rfl) ?_
    refine lv_i2l C.1 C.2.1 (dk_at dkX6_canBe 18 rfl) rfl ?_
    refine lv_topl (fun x16 ex16 => ?_)
    have hf := nm_at ex16 hf
    refine lv_lconst (v := 1) C.1 C.2.1 (dk_at dkX6_canBe 19 rfl) (by decide) ?_
    refine lv_ldc2 (v := 9) C.1 C.2.1 C.2.2.2.1 (C.2.2.2.2 _ (List.mem_cons_of_mem _ (inr20 _ (List.mem_of_getElem? (i := 16) rfl)))) (dk_at dkX6_canBe 20 rfl) ?_
    obtain ⟨r17, hq18, hf⟩ := bd1_at hf
    refine r_st (As := [.long x16, .long 1, .long 9]) (rest := []) C (kX6_in l x16 1 9 r17 hq18) (cwS0 C (inr5 _ (List.mem_of_getElem? (i := 21) rfl)) mwX6_in hdX6_in ⟨Nat.le_of_ble_eq_true rfl, Nat.le_of_ble_eq_true rfl⟩) rfl hl.1 rfl (Nat.le_of_ble_eq_true rfl) ⟨Nat.zero_le _, Nat.zero_le _⟩ (dk_at dkX6_canBe 21 rfl) ?_
    obtain ⟨h19, hf⟩ := gb_at hf
    cases hf
    exact fin _ _ _ (dk_at dkX6_canBe 22 rfl) h19 rfl
  have hf := (if_neg c15).symm.trans hf
  by_cases c20 : p1 = 4
  · have hf := (if_pos c20).symm.trans hf
    refine lv_tableIn (tgt := 71) C.1 C.2.1 (dk_at dkX6_canBe 1 rfl) (by rw [c20]; decide) (by rw [c20]; decide) (by rw [c20]; rfl) (by decide) ?_
    refine lv_iload_n C.1 C.2.1 (dk_at dkX6_canBe 23 rfl) rfl (lv_at hl 1 rfl) ?_
    refine lv_i2l C.1 C.2.1 (dk_at dkX6_canBe 24 rfl) rfl ?_
    refine lv_topl (fun x21 ex21 => ?_)
    have hf := nm_at ex21 hf
    refine lv_lconst (v := 0) C.1 C.2.1 (dk_at dkX6_canBe 25 rfl) (by decide) ?_
    refine lv_ldc2 (v := 9) C.1 C.2.1 C.2.2.2.1 (C.2.2.2.2 _ (List.mem_cons_of_mem _ (inr20 _ (List.mem_of_getElem? (i := 16) rfl)))) (dk_at dkX6_canBe 26 rfl) ?_
    obtain ⟨r22, hq23, hf⟩ := bd1_at hf
    refine r_st (As := [.long x21, .long 0, .long 9]) (rest := []) C (kX6_in l x21 0 9 r22 hq23) (cwS0 C (inr5 _ (List.mem_of_getElem? (i := 21) rfl)) mwX6_in hdX6_in ⟨Nat.le_of_ble_eq_true rfl, Nat.le_of_ble_eq_true rfl⟩) rfl hl.1 rfl (Nat.le_of_ble_eq_true rfl) ⟨Nat.zero_le _, Nat.zero_le _⟩ (dk_at dkX6_canBe 27 rfl) ?_
    obtain ⟨h24, hf⟩ := gb_at hf
    cases hf
    exact fin _ _ _ (dk_at dkX6_canBe 28 rfl) h24 rfl
  have hf := (if_neg c20).symm.trans hf
  have c1n : p1.toInt ≠ 0 := fun q => c1 (by rw [← Int32.ofInt_toInt p1, q]; rfl)
  have c6n : p1.toInt ≠ 1 := fun q => c6 (by rw [← Int32.ofInt_toInt p1, q]; rfl)
  have c10n : p1.toInt ≠ 2 := fun q => c10 (by rw [← Int32.ofInt_toInt p1, q]; rfl)
  have c15n : p1.toInt ≠ 3 := fun q => c15 (by rw [← Int32.ofInt_toInt p1, q]; rfl)
  have c20n : p1.toInt ≠ 4 := fun q => c20 (by rw [← Int32.ofInt_toInt p1, q]; rfl)
  refine lv_tableOut (tgt := 81) C.1 C.2.1 (dk_at dkX6_canBe 1 rfl) (by omega) (by decide) ?_
  refine lv_iconst (v := 0) C.1 C.2.1 (dk_at dkX6_canBe 29 rfl) (by decide) ?_
  cases hf
  exact fin _ _ _ (dk_at dkX6_canBe 30 rfl) rfl rfl
-- X6.alter
abbrev tbX6_alter : List (Nat × Instr × Nat) := [(0, .aload_n 0, 1), (1, .iload_n 1, 1), (2, .invokevirtual 214, 3), (5, .ifCond .eq 27, 3), (8, .iload_n 2, 1), (9, .iload_n 3, 1), (10, .invokestatic 226, 3), (13, .ifCond .eq 19, 3), (16, .aload_n 0, 1), (17, .bipush 18, 2), (19, .iconst 5, 1), (20, .iload_n 1, 1), (21, .imul, 1), (22, .iadd, 1), (23, .iload_n 2, 1), (24, .iadd, 1), (25, .iload_n 3, 1), (26, .invokevirtual 230, 3), (29, .goto 4, 3), (32, .iconst (-1), 1), (33, .ireturn, 1)]
theorem dkX6_alter : dk cX6_alter tbX6_alter := dk_of (by decide +kernel)
abbrev cdX6_alter : Cond := Cond.code yX6_alter cX6_alter 4 (some .int)
abbrev rmX6_alter : Room := { frames := 2, cells := 0, slots := 0, locals := 46 }
theorem mwX6_alter : Cond.instanceMethod yX6_alter ∈ wsL_law ∧ Cond.selects RX6 yX6_alter yX6_alter ∈ wsL_law ∧ Cond.initialized RX6 ∈ wsL_law ∧ cdX6_alter ∈ wsL_law := ⟨inr20 _ (List.mem_of_getElem? (i := 22) rfl), inr20 _ (List.mem_of_getElem? (i := 23) rfl), inr1 _ (List.mem_of_getElem? (i := 5) rfl), inr21 _ (List.mem_of_getElem? (i := 0) rfl)⟩
theorem hdX6_alter : yX6_alter.cls = RX6 ∧ yX6_alter.cls ≠ "java/lang/invoke/MethodHandle" ∧ yX6_alter.cls ≠ "java/lang/invoke/VarHandle" ∧ (parseMethodDescriptor yX6_alter.desc).map (fun d => d.parameters.length) = some 3 := by decide +kernel
set_option maxHeartbeats 4000000 in
set_option maxRecDepth 100000 in
theorem kX6_alter (l : Launch) (g : Gx) (sz : Nat) (a_m : Nat → Nat) (st : AI) (now : AI) (isKept : AI) (hearers : Int32) (draft : AI) (dHearers : Int32) (dWalls : Int32) (toldWinds : Int32) (tape : AI) (taped : Int32) (pos : Int32) (frm : Int32) (sort : Int32) (value : Int32) (fault : Int32) (wrongAt : Int32) (landed : AI) (landedIn : AI) (stepped : AI) (isThere : AI) (isAt : AI) (isNext : AI) (landSum : Int64) (heardSum : Int64) (allWays : Int64) (ways : AI) (drawn : AI) (lanes : AI) (sizes : AI) (cells : AI) (torn : Int32) (before : AI) (p1 : Int32) (p2 : Int32) (p3 : Int32) (res : Int32) (st_o : AI) (hf : fX6_alter p1 p2 p3 st = some (res, st_o)) : Met l yX6_alter (cdX6_alter :: wsL_law) rmX6_alter (va_Pc [.ref (a_m 0), .int p1, .int p2, .int p3] (RWp g sz (wM g a_m st now isKept hearers draft dHearers dWalls toldWinds tape taped pos frm sort value fault wrongAt landed landedIn stepped isThere isAt isNext landSum heardSum allWays ways drawn lanes sizes cells torn before))) (va_Qi (fun x (_ : Unit) => x = res) (fun _ => RWq g (va_A (wM g a_m st now isKept hearers draft dHearers dWalls toldWinds tape taped pos frm sort value fault wrongAt landed landedIn stepped isThere isAt isNext landSum heardSum allWays ways drawn lanes sizes cells torn before) sz) (wM g a_m st_o now isKept hearers draft dHearers dWalls toldWinds tape taped pos frm sort value fault wrongAt landed landedIn stepped isThere isAt isNext landSum heardSum allWays ways drawn lanes sizes cells torn before)) (va_A (wM g a_m st now isKept hearers draft dHearers dWalls toldWinds tape taped pos frm sort value fault wrongAt landed landedIn stepped isThere isAt isNext landSum heardSum allWays ways drawn lanes sizes cells torn before) sz)) 0 0 (va_A (wM g a_m st now isKept hearers draft dHearers dWalls toldWinds tape taped pos frm sort value fault wrongAt landed landedIn stepped isThere isAt isNext landSum heardSum allWays ways drawn lanes sizes cells torn before) sz) := by
  refine Met_rwi (cc := cX6_alter) (maxL := 4) (by decide) rfl (Nat.le_of_ble_eq_true rfl) ?_
  intro P E Z Mi AR BE ME CO A Q C hK hA fin w ls hl
  have hl : lv_has ls 4 [(0, .ref (a_m 0)), (1, .int p1), (2, .int p2), (3, .int p3)] := hl
  unfold fX6_alter at hf
  refine lv_aload_n C.1 C.2.1 (dk_at dkX6_alter 0 rfl) rfl (lv_at hl 0 rfl) ?_
  refine lv_iload_n C.1 C.2.1 (dk_at dkX6_alter 1 rfl) rfl (lv_at hl 1 rfl) ?_
  obtain ⟨r1, hq2, hf⟩ := bd1_at hf
  refine r_roV (As := [.int p1]) (rest := []) C (kX6_isSaying l g a_m st now isKept hearers draft dHearers dWalls toldWinds tape taped pos frm sort value fault wrongAt landed landedIn stepped isThere isAt isNext landSum heardSum allWays ways drawn lanes sizes cells torn before p1 r1 hq2) (cwV0 C (inr18 _ (List.mem_of_getElem? (i := 10) rfl)) mwX6_isSaying hdX6_isSaying ⟨Nat.le_of_ble_eq_true rfl, Nat.le_of_ble_eq_true rfl⟩) hK w.1 rfl rfl rfl hl.1 rfl (Nat.le_of_ble_eq_true rfl) ⟨Nat.zero_le _, Nat.zero_le _⟩ (dk_at dkX6_alter 2 rfl) ?_
  refine lv_if_eq (tgt := 32) C.1 C.2.1 (dk_at dkX6_alter 3 rfl) (by decide) (fun c3 => ?_) (fun c3 => ?_)
  · have hf := (if_pos c3).symm.trans hf
    refine lv_iconst (v := (-1)) C.1 C.2.1 (dk_at dkX6_alter 19 rfl) (by decide) ?_
    cases hf
    exact fin _ _ _ _ _ (dk_at dkX6_alter 20 rfl) rfl w
  · have hf := (if_neg c3).symm.trans hf
    refine lv_iload_n C.1 C.2.1 (dk_at dkX6_alter 4 rfl) rfl (lv_at hl 2 rfl) ?_
    refine lv_iload_n C.1 C.2.1 (dk_at dkX6_alter 5 rfl) rfl (lv_at hl 3 rfl) ?_
    obtain ⟨r4, hq5, hf⟩ := bd1_at hf
    refine r_st (As := [.int p2, .int p3]) (rest := []) C (kX6_canBe l p2 p3 r4 hq5) (cwS0 C (inr21 _ (List.mem_of_getElem? (i := 1) rfl)) mwX6_canBe hdX6_canBe ⟨Nat.le_of_ble_eq_true rfl, Nat.le_of_ble_eq_true rfl⟩) rfl hl.1 rfl (Nat.le_of_ble_eq_true rfl) ⟨Nat.zero_le _, Nat.zero_le _⟩ (dk_at dkX6_alter 6 rfl) ?_
    refine lv_if_eq (tgt := 32) C.1 C.2.1 (dk_at dkX6_alter 7 rfl) (by decide) (fun c6 => ?_) (fun c6 => ?_)
    · have hf := (if_pos c6).symm.trans hf
      refine lv_iconst (v := (-1)) C.1 C.2.1 (dk_at dkX6_alter 19 rfl) (by decide) ?_
      cases hf
      exact fin _ _ _ _ _ (dk_at dkX6_alter 20 rfl) rfl w
    · have hf := (if_neg c6).symm.trans hf
      refine lv_aload_n C.1 C.2.1 (dk_at dkX6_alter 8 rfl) rfl (lv_at hl 0 rfl) ?_
      refine lv_bipush (v := 18) C.1 C.2.1 (dk_at dkX6_alter 9 rfl) (by decide) ?_
      refine lv_iconst (v := 5) C.1 C.2.1 (dk_at dkX6_alter 10 rfl) (by decide) ?_
      refine lv_iload_n C.1 C.2.1 (dk_at dkX6_alter 11 rfl) rfl (lv_at hl 1 rfl) ?_
      refine lv_imul C.1 C.2.1 (dk_at dkX6_alter 12 rfl) ?_
      refine lv_iadd C.1 C.2.1 (dk_at dkX6_alter 13 rfl) ?_
      refine lv_topi (fun x7 ex7 => ?_)
      have hf := nm_at ex7 hf
      refine lv_iload_n C.1 C.2.1 (dk_at dkX6_alter 14 rfl) rfl (lv_at hl 2 rfl) ?_
      refine lv_iadd C.1 C.2.1 (dk_at dkX6_alter 15 rfl) ?_
      refine lv_topi (fun x8 ex8 => ?_)
      have hf := nm_at ex8 hf
      refine lv_iload_n C.1 C.2.1 (dk_at dkX6_alter 16 rfl) rfl (lv_at hl 3 rfl) ?_
      obtain ⟨r9, st_10, hq11, hf⟩ := bd2_at hf
      refine r_rwi (As := [.int x8, .int p3]) (rest := []) (wr := []) (ws' := wM g a_m st_10 now isKept hearers draft dHearers dWalls toldWinds tape taped pos frm sort value fault wrongAt landed landedIn stepped isThere isAt isNext landSum heardSum allWays ways drawn lanes sizes cells torn before) C (kX6_becomes l g _ a_m st now isKept hearers draft dHearers dWalls toldWinds tape taped pos frm sort value fault wrongAt landed landedIn stepped isThere isAt isNext landSum heardSum allWays ways drawn lanes sizes cells torn before x8 p3 r9 st_10 hq11) (cwV0 C (inr21 _ (List.mem_of_getElem? (i := 5) rfl)) mwX6_becomes hdX6_becomes ⟨Nat.le_of_ble_eq_true rfl, Nat.le_of_ble_eq_true rfl⟩) hK w hA [0, 1, 2, 3, 4, 5, 6, 7, 8, 9, 10, 11, 12, 13, 14, 15, 16, 17] [] [0, 1, 2, 3, 4, 5, 6, 7, 8, 9, 10, 11, 12, 13, 14, 15, 16, 17] (by decide) rfl rfl (by decide) (by decide) rfl (by decide) rfl rfl rfl hl.1 rfl (Nat.le_of_ble_eq_true rfl) ⟨Nat.zero_le _, Nat.zero_le _⟩ (dk_at dkX6_alter 17 rfl) (fun H locs w => ?_)
      refine lv_goto (tgt := 33) C.1 C.2.1 (dk_at dkX6_alter 18 rfl) (by decide) ?_
      cases hf
      exact fin _ _ _ _ _ (dk_at dkX6_alter 20 rfl) rfl w
-- X6.stand
abbrev tbX6_stand : List (Nat × Instr × Nat) := [(0, .aload_n 0, 1), (1, .iload_n 1, 1), (2, .invokevirtual 219, 3), (5, .ifCond .eq 22, 3), (8, .iload_n 2, 1), (9, .invokestatic 140, 3), (12, .ifCond .eq 15, 3), (15, .aload_n 0, 1), (16, .bipush 44, 2), (18, .iload_n 1, 1), (19, .iadd, 1), (20, .iload_n 2, 1), (21, .invokevirtual 230, 3), (24, .goto 4, 3), (27, .iconst (-1), 1), (28, .ireturn, 1)]
theorem dkX6_stand : dk cX6_stand tbX6_stand := dk_of (by decide +kernel)
abbrev cdX6_stand : Cond := Cond.code yX6_stand cX6_stand 3 (some .int)
abbrev rmX6_stand : Room := { frames := 2, cells := 0, slots := 0, locals := 46 }
theorem mwX6_stand : Cond.instanceMethod yX6_stand ∈ wsL_law ∧ Cond.selects RX6 yX6_stand yX6_stand ∈ wsL_law ∧ Cond.initialized RX6 ∈ wsL_law ∧ cdX6_stand ∈ wsL_law := ⟨inr21 _ (List.mem_of_getElem? (i := 14) rfl), inr21 _ (List.mem_of_getElem? (i := 15) rfl), inr1 _ (List.mem_of_getElem? (i := 5) rfl), inr21 _ (List.mem_of_getElem? (i := 16) rfl)⟩
theorem hdX6_stand : yX6_stand.cls = RX6 ∧ yX6_stand.cls ≠ "java/lang/invoke/MethodHandle" ∧ yX6_stand.cls ≠ "java/lang/invoke/VarHandle" ∧ (parseMethodDescriptor yX6_stand.desc).map (fun d => d.parameters.length) = some 2 := by decide +kernel
set_option maxHeartbeats 4000000 in
set_option maxRecDepth 100000 in
theorem kX6_stand (l : Launch) (g : Gx) (sz : Nat) (a_m : Nat → Nat) (st : AI) (now : AI) (isKept : AI) (hearers : Int32) (draft : AI) (dHearers : Int32) (dWalls : Int32) (toldWinds : Int32) (tape : AI) (taped : Int32) (pos : Int32) (frm : Int32) (sort : Int32) (value : Int32) (fault : Int32) (wrongAt : Int32) (landed : AI) (landedIn : AI) (stepped : AI) (isThere : AI) (isAt : AI) (isNext : AI) (landSum : Int64) (heardSum : Int64) (allWays : Int64) (ways : AI) (drawn : AI) (lanes : AI) (sizes : AI) (cells : AI) (torn : Int32) (before : AI) (p1 : Int32) (p2 : Int32) (res : Int32) (st_o : AI) (hf : fX6_stand p1 p2 st hearers = some (res, st_o)) : Met l yX6_stand (cdX6_stand :: wsL_law) rmX6_stand (va_Pc [.ref (a_m 0), .int p1, .int p2] (RWp g sz (wM g a_m st now isKept hearers draft dHearers dWalls toldWinds tape taped pos frm sort value fault wrongAt landed landedIn stepped isThere isAt isNext landSum heardSum allWays ways drawn lanes sizes cells torn before))) (va_Qi (fun x (_ : Unit) => x = res) (fun _ => RWq g (va_A (wM g a_m st now isKept hearers draft dHearers dWalls toldWinds tape taped pos frm sort value fault wrongAt landed landedIn stepped isThere isAt isNext landSum heardSum allWays ways drawn lanes sizes cells torn before) sz) (wM g a_m st_o now isKept hearers draft dHearers dWalls toldWinds tape taped pos frm sort value fault wrongAt landed landedIn stepped isThere isAt isNext landSum heardSum allWays ways drawn lanes sizes cells torn before)) (va_A (wM g a_m st now isKept hearers draft dHearers dWalls toldWinds tape taped pos frm sort value fault wrongAt landed landedIn stepped isThere isAt isNext landSum heardSum allWays ways drawn lanes sizes cells torn before) sz)) 0 0 (va_A (wM g a_m st now isKept hearers draft dHearers dWalls toldWinds tape taped pos frm sort value fault wrongAt landed landedIn stepped isThere isAt isNext landSum heardSum allWays ways drawn lanes sizes cells torn before) sz) := by
  refine Met_rwi (cc := cX6_stand) (maxL := 3) (by decide) rfl (Nat.le_of_ble_eq_true rfl) ?_
  intro P E Z Mi AR BE ME CO A Q C hK hA fin w ls hl
  have hl : lv_has ls 3 [(0, .ref (a_m 0)), (1, .int p1), (2, .int p2)] := hl
  unfold fX6_stand at hf
  refine lv_aload_n C.1 C.2.1 (dk_at dkX6_stand 0 rfl) rfl (lv_at hl 0 rfl) ?_
  refine lv_iload_n C.1 C.2.1 (dk_at dkX6_stand 1 rfl) rfl (lv_at hl 1 rfl) ?_
  obtain ⟨r1, hq2, hf⟩ := bd1_at hf
  refine r_roV (As := [.int p1]) (rest := []) C (kX6_isHearer l g a_m st now isKept hearers draft dHearers dWalls toldWinds tape taped pos frm sort value fault wrongAt landed landedIn stepped isThere isAt isNext landSum heardSum allWays ways drawn lanes sizes cells torn before p1 r1 hq2) (cwV0 C (inr19 _ (List.mem_of_getElem? (i := 11) rfl)) mwX6_isHearer hdX6_isHearer ⟨Nat.le_of_ble_eq_true rfl, Nat.le_of_ble_eq_true rfl⟩) hK w.1 rfl rfl rfl hl.1 rfl (Nat.le_of_ble_eq_true rfl) ⟨Nat.zero_le _, Nat.zero_le _⟩ (dk_at dkX6_stand 2 rfl) ?_
  refine lv_if_eq (tgt := 27) C.1 C.2.1 (dk_at dkX6_stand 3 rfl) (by decide) (fun c3 => ?_) (fun c3 => ?_)
  · have hf := (if_pos c3).symm.trans hf
    refine lv_iconst (v := (-1)) C.1 C.2.1 (dk_at dkX6_stand 14 rfl) (by decide) ?_
    cases hf
    exact fin _ _ _ _ _ (dk_at dkX6_stand 15 rfl) rfl w
  · have hf := (if_neg c3).symm.trans hf
    refine lv_iload_n C.1 C.2.1 (dk_at dkX6_stand 4 rfl) rfl (lv_at hl 2 rfl) ?_
    obtain ⟨r4, hq5, hf⟩ := bd1_at hf
    refine r_st (As := [.int p2]) (rest := []) C (kX6_isCell l p2 r4 hq5) (cwS0 C (inr15 _ (List.mem_of_getElem? (i := 8) rfl)) mwX6_isCell hdX6_isCell ⟨Nat.le_of_ble_eq_true rfl, Nat.le_of_ble_eq_true rfl⟩) rfl hl.1 rfl (Nat.le_of_ble_eq_true rfl) ⟨Nat.zero_le _, Nat.zero_le _⟩ (dk_at dkX6_stand 5 rfl) ?_
    refine lv_if_eq (tgt := 27) C.1 C.2.1 (dk_at dkX6_stand 6 rfl) (by decide) (fun c6 => ?_) (fun c6 => ?_)
    · have hf := (if_pos c6).symm.trans hf
      refine lv_iconst (v := (-1)) C.1 C.2.1 (dk_at dkX6_stand 14 rfl) (by decide) ?_
      cases hf
      exact fin _ _ _ _ _ (dk_at dkX6_stand 15 rfl) rfl w
    · have hf := (if_neg c6).symm.trans hf
      refine lv_aload_n C.1 C.2.1 (dk_at dkX6_stand 7 rfl) rfl (lv_at hl 0 rfl) ?_
      refine lv_bipush (v := 44) C.1 C.2.1 (dk_at dkX6_stand 8 rfl) (by decide) ?_
      refine lv_iload_n C.1 C.2.1 (dk_at dkX6_stand 9 rfl) rfl (lv_at hl 1 rfl) ?_
      refine lv_iadd C.1 C.2.1 (dk_at dkX6_stand 10 rfl) ?_
      refine lv_topi (fun x7 ex7 => ?_)
      have hf := nm_at ex7 hf
      refine lv_iload_n C.1 C.2.1 (dk_at dkX6_stand 11 rfl) rfl (lv_at hl 2 rfl) ?_
      obtain ⟨r8, st_9, hq10, hf⟩ := bd2_at hf
      refine r_rwi (As := [.int x7, .int p2]) (rest := []) (wr := []) (ws' := wM g a_m st_9 now isKept hearers draft dHearers dWalls toldWinds tape taped pos frm sort value fault wrongAt landed landedIn stepped isThere isAt isNext landSum heardSum allWays ways drawn lanes sizes cells torn before) C (kX6_becomes l g _ a_m st now isKept hearers draft dHearers dWalls toldWinds tape taped pos frm sort value fault wrongAt landed landedIn stepped isThere isAt isNext landSum heardSum allWays ways drawn lanes sizes cells torn before x7 p2 r8 st_9 hq10) (cwV0 C (inr21 _ (List.mem_of_getElem? (i := 5) rfl)) mwX6_becomes hdX6_becomes ⟨Nat.le_of_ble_eq_true rfl, Nat.le_of_ble_eq_true rfl⟩) hK w hA [0, 1, 2, 3, 4, 5, 6, 7, 8, 9, 10, 11, 12, 13, 14, 15, 16, 17] [] [0, 1, 2, 3, 4, 5, 6, 7, 8, 9, 10, 11, 12, 13, 14, 15, 16, 17] (by decide) rfl rfl (by decide) (by decide) rfl (by decide) rfl rfl rfl hl.1 rfl (Nat.le_of_ble_eq_true rfl) ⟨Nat.zero_le _, Nat.zero_le _⟩ (dk_at dkX6_stand 12 rfl) (fun H locs w => ?_)
      refine lv_goto (tgt := 28) C.1 C.2.1 (dk_at dkX6_stand 13 rfl) (by decide) ?_
      cases hf
      exact fin _ _ _ _ _ (dk_at dkX6_stand 15 rfl) rfl w
-- X6.build
abbrev tbX6_build : List (Nat × Instr × Nat) := [(0, .iload_n 1, 1), (1, .invokestatic 140, 3), (4, .ifCond .ne 5, 3), (7, .iconst (-1), 1), (8, .ireturn, 1), (9, .aload_n 0, 1), (10, .invokevirtual 201, 3), (13, .aload_n 0, 1), (14, .iload_n 1, 1), (15, .invokevirtual 192, 3), (18, .invokestatic 207, 3), (21, .istore_n 3, 1), (22, .iload_n 2, 1), (23, .ifCond .eq 19, 3), (26, .iload_n 3, 1), (27, .ifCond .ne 15, 3), (30, .aload_n 0, 1), (31, .invokevirtual 195, 3), (34, .bipush 12, 2), (36, .if_icmp .ne 6, 3), (39, .bipush (-3), 2), (41, .ireturn, 1), (42, .iload_n 1, 1), (43, .bipush 10, 2), (45, .idiv, 1), (46, .istore 4, 2), (48, .aload_n 0, 1), (49, .getfield 7, 3), (52, .iload 4, 2), (54, .iload_n 2, 1), (55, .ifCond .eq 20, 3), (58, .aload_n 0, 1), (59, .getfield 7, 3), (62, .iload 4, 2), (64, .iaload, 1), (65, .iconst 1, 1), (66, .iload_n 1, 1), (67, .bipush 10, 2), (69, .irem, 1), (70, .ishl, 1), (71, .ior, 1), (72, .goto 19, 3), (75, .aload_n 0, 1), (76, .getfield 7, 3), (79, .iload 4, 2), (81, .iaload, 1), (82, .iconst 1, 1), (83, .iload_n 1, 1), (84, .bipush 10, 2), (86, .irem, 1), (87, .ishl, 1), (88, .iconst (-1), 1), (89, .ixor, 1), (90, .iand, 1), (91, .iastore, 1), (92, .iload_n 3, 1), (93, .ireturn, 1)]
theorem dkX6_build : dk cX6_build tbX6_build := dk_of (by decide +kernel)
abbrev cdX6_build : Cond := Cond.code yX6_build cX6_build 5 (some .int)
abbrev rmX6_build : Room := { frames := 2, cells := 0, slots := 0, locals := 44 }
theorem mwX6_build : Cond.instanceMethod yX6_build ∈ wsL_law ∧ Cond.selects RX6 yX6_build yX6_build ∈ wsL_law ∧ Cond.initialized RX6 ∈ wsL_law ∧ cdX6_build ∈ wsL_law := ⟨inr21 _ (List.mem_of_getElem? (i := 23) rfl), inr22 _ (List.mem_of_getElem? (i := 0) rfl), inr1 _ (List.mem_of_getElem? (i := 5) rfl), inr22 _ (List.mem_of_getElem? (i := 1) rfl)⟩
theorem hdX6_build : yX6_build.cls = RX6 ∧ yX6_build.cls ≠ "java/lang/invoke/MethodHandle" ∧ yX6_build.cls ≠ "java/lang/invoke/VarHandle" ∧ (parseMethodDescriptor yX6_build.desc).map (fun d => d.parameters.length) = some 2 := by decide +kernel
set_option maxHeartbeats 4000000 in
set_option maxRecDepth 100000 in
theorem kX6_build (l : Launch) (g : Gx) (sz : Nat) (a_m : Nat → Nat) (st : AI) (now : AI) (isKept : AI) (hearers : Int32) (draft : AI) (dHearers : Int32) (dWalls : Int32) (toldWinds : Int32) (tape : AI) (taped : Int32) (pos : Int32) (frm : Int32) (sort : Int32) (value : Int32) (fault : Int32) (wrongAt : Int32) (landed : AI) (landedIn : AI) (stepped : AI) (isThere : AI) (isAt : AI) (isNext : AI) (landSum : Int64) (heardSum : Int64) (allWays : Int64) (ways : AI) (drawn : AI) (lanes : AI) (sizes : AI) (cells : AI) (torn : Int32) (before : AI) (p1 : Int32) (p2 : Int32) (res : Int32) (st_o : AI) (now_o : AI) (hf : fX6_build p1 p2 st now = some (res, st_o, now_o)) : Met l yX6_build (cdX6_build :: wsL_law) rmX6_build (va_Pc [.ref (a_m 0), .int p1, .int p2] (RWp g sz (wM g a_m st now isKept hearers draft dHearers dWalls toldWinds tape taped pos frm sort value fault wrongAt landed landedIn stepped isThere isAt isNext landSum heardSum allWays ways drawn lanes sizes cells torn before))) (va_Qi (fun x (_ : Unit) => x = res) (fun _ => RWq g (va_A (wM g a_m st now isKept hearers draft dHearers dWalls toldWinds tape taped pos frm sort value fault wrongAt landed landedIn stepped isThere isAt isNext landSum heardSum allWays ways drawn lanes sizes cells torn before) sz) (wM g a_m st_o now_o isKept hearers draft dHearers dWalls toldWinds tape taped pos frm sort value fault wrongAt landed landedIn stepped isThere isAt isNext landSum heardSum allWays ways drawn lanes sizes cells torn before)) (va_A (wM g a_m st now isKept hearers draft dHearers dWalls toldWinds tape taped pos frm sort value fault wrongAt landed landedIn stepped isThere isAt isNext landSum heardSum allWays ways drawn lanes sizes cells torn before) sz)) 0 0 (va_A (wM g a_m st now isKept hearers draft dHearers dWalls toldWinds tape taped pos frm sort value fault wrongAt landed landedIn stepped isThere isAt isNext landSum heardSum allWays ways drawn lanes sizes cells torn before) sz) := by
  refine Met_rwi (cc := cX6_build) (maxL := 5) (by decide) rfl (Nat.le_of_ble_eq_true rfl) ?_
  intro P E Z Mi AR BE ME CO A Q C hK hA fin w ls hl
  have hl : lv_has ls 5 [(0, .ref (a_m 0)), (1, .int p1), (2, .int p2)] := hl
  unfold fX6_build at hf
  refine lv_iload_n C.1 C.2.1 (dk_at dkX6_build 0 rfl) rfl (lv_at hl 1 rfl) ?_
  obtain ⟨r1, hq2, hf⟩ := bd1_at hf
  refine r_st (As := [.int p1]) (rest := []) C (kX6_isCell l p1 r1 hq2) (cwS0 C (inr15 _ (List.mem_of_getElem? (i := 8) rfl)) mwX6_isCell hdX6_isCell ⟨Nat.le_of_ble_eq_true rfl, Nat.le_of_ble_eq_true rfl⟩) rfl hl.1 rfl (Nat.le_of_ble_eq_true rfl) ⟨Nat.zero_le _, Nat.zero_le _⟩ (dk_at dkX6_build 1 rfl) ?_
  refine lv_if_ne (tgt := 9) C.1 C.2.1 (dk_at dkX6_build 2 rfl) (by decide) (fun c3 => ?_) (fun c3 => ?_)
  · have hf := (if_neg c3).symm.trans hf
    refine lv_aload_n C.1 C.2.1 (dk_at dkX6_build 5 rfl) rfl (lv_at hl 0 rfl) ?_
    obtain ⟨now_4, hq5, hf⟩ := bd1_at hf
    refine r_rwv (As := []) (rest := []) (wr := []) (ws' := wM g a_m st now_4 isKept hearers draft dHearers dWalls toldWinds tape taped pos frm sort value fault wrongAt landed landedIn stepped isThere isAt isNext landSum heardSum allWays ways drawn lanes sizes cells torn before) C (kX6_starts l g _ a_m st now isKept hearers draft dHearers dWalls toldWinds tape taped pos frm sort value fault wrongAt landed landedIn stepped isThere isAt isNext landSum heardSum allWays ways drawn lanes sizes cells torn before now_4 hq5) (cwV0 C (inr17 _ (List.mem_of_getElem? (i := 3) rfl)) mwX6_starts hdX6_starts ⟨Nat.le_of_ble_eq_true rfl, Nat.le_of_ble_eq_true rfl⟩) hK w hA [0, 1, 2, 3, 4, 5, 6, 7, 8, 9, 10, 11, 12, 13, 14, 15, 16, 17] [] [0, 1, 2, 3, 4, 5, 6, 7, 8, 9, 10, 11, 12, 13, 14, 15, 16, 17] (by decide) rfl rfl (by decide) (by decide) rfl (by decide) rfl rfl rfl hl.1 rfl (Nat.le_of_ble_eq_true rfl) ⟨Nat.zero_le _, Nat.zero_le _⟩ (dk_at dkX6_build 6 rfl) (fun H locs w => ?_)
    refine lv_aload_n C.1 C.2.1 (dk_at dkX6_build 7 rfl) rfl (lv_at hl 0 rfl) ?_
    refine lv_iload_n C.1 C.2.1 (dk_at dkX6_build 8 rfl) rfl (lv_at hl 1 rfl) ?_
    obtain ⟨r6, hq7, hf⟩ := bd1_at hf
    refine r_roV (As := [.int p1]) (rest := []) C (kX6_isWall l g a_m st now_4 isKept hearers draft dHearers dWalls toldWinds tape taped pos frm sort value fault wrongAt landed landedIn stepped isThere isAt isNext landSum heardSum allWays ways drawn lanes sizes cells torn before p1 r6 hq7) (cwV0 C (inr20 _ (List.mem_of_getElem? (i := 2) rfl)) mwX6_isWall hdX6_isWall ⟨Nat.le_of_ble_eq_true rfl, Nat.le_of_ble_eq_true rfl⟩) hK w.1 rfl rfl rfl hl.1 rfl (Nat.le_of_ble_eq_true rfl) ⟨Nat.zero_le _, Nat.zero_le _⟩ (dk_at dkX6_build 9 rfl) ?_
    obtain ⟨r8, hq9, hf⟩ := bd1_at hf
    refine r_st (As := [.int r6]) (rest := []) C (kX6_flag l r6 r8 hq9) (cwS0 C (inr17 _ (List.mem_of_getElem? (i := 7) rfl)) mwX6_flag hdX6_flag ⟨Nat.le_of_ble_eq_true rfl, Nat.le_of_ble_eq_true rfl⟩) rfl hl.1 rfl (Nat.le_of_ble_eq_true rfl) ⟨Nat.zero_le _, Nat.zero_le _⟩ (dk_at dkX6_build 10 rfl) ?_
    refine lv_istore_n (lv' := [(3, .int r8), (0, .ref (a_m 0)), (1, .int p1), (2, .int p2)]) C.1 C.2.1 (dk_at dkX6_build 11 rfl) rfl hl (by decide) rfl (fun ls hl => ?_)
    refine lv_iload_n C.1 C.2.1 (dk_at dkX6_build 12 rfl) rfl (lv_at hl 3 rfl) ?_
    refine lv_if_eq (tgt := 42) C.1 C.2.1 (dk_at dkX6_build 13 rfl) (by decide) (fun c10 => ?_) (fun c10 => ?_)
    · have hf := (if_pos c10).symm.trans hf
      refine lv_iload_n C.1 C.2.1 (dk_at dkX6_build 22 rfl) rfl (lv_at hl 2 rfl) ?_
      refine lv_bipush (v := 10) C.1 C.2.1 (dk_at dkX6_build 23 rfl) (by decide) ?_
      refine lv_idiv C.1 C.2.1 (dk_at dkX6_build 24 rfl) (by decide) ?_
      refine lv_topi (fun x11 ex11 => ?_)
      have hf := nm_at ex11 hf
      refine lv_istore (lv' := [(4, .int x11), (3, .int r8), (0, .ref (a_m 0)), (1, .int p1), (2, .int p2)]) C.1 C.2.1 (dk_at dkX6_build 25 rfl) hl (by decide) rfl (fun ls hl => ?_)
      refine lv_aload_n C.1 C.2.1 (dk_at dkX6_build 26 rfl) rfl (lv_at hl 2 rfl) ?_
      refine r_get (v := .ref (a_m 1)) C hK w.1 (fun w h => List.mem_cons_of_mem _ (inlX6 w h)) 0 rfl rfl 0 (by decide) (List.mem_cons_of_mem _ (inr4 _ (List.mem_of_getElem? (i := 4) rfl))) rfl (dk_at dkX6_build 27 rfl) ?_
      refine lv_iload C.1 C.2.1 (dk_at dkX6_build 28 rfl) (lv_at hl 0 rfl) ?_
      refine lv_iload_n C.1 C.2.1 (dk_at dkX6_build 29 rfl) rfl (lv_at hl 4 rfl) ?_
      refine lv_if_eq (tgt := 75) C.1 C.2.1 (dk_at dkX6_build 30 rfl) (by decide) (fun c12 => ?_) (fun c12 => ?_)
      · have hf := (if_pos c12).symm.trans hf
        refine lv_aload_n C.1 C.2.1 (dk_at dkX6_build 42 rfl) rfl (lv_at hl 2 rfl) ?_
        refine r_get (v := .ref (a_m 1)) C hK w.1 (fun w h => List.mem_cons_of_mem _ (inlX6 w h)) 0 rfl rfl 0 (by decide) (List.mem_cons_of_mem _ (inr4 _ (List.mem_of_getElem? (i := 4) rfl))) rfl (dk_at dkX6_build 43 rfl) ?_
        refine lv_iload C.1 C.2.1 (dk_at dkX6_build 44 rfl) (lv_at hl 0 rfl) ?_
        obtain ⟨h13, hf⟩ := gd_at hf
        refine r_iald (k := x11.toNatClampNeg) (f := st) C hK w.1 1 rfl h13 rfl (dk_at dkX6_build 45 rfl) ?_
        refine lv_topi (fun x14 ex14 => ?_)
        have hf := nm_at ex14 hf
        refine lv_iconst (v := 1) C.1 C.2.1 (dk_at dkX6_build 46 rfl) (by decide) ?_
        refine lv_iload_n C.1 C.2.1 (dk_at dkX6_build 47 rfl) rfl (lv_at hl 3 rfl) ?_
        refine lv_bipush (v := 10) C.1 C.2.1 (dk_at dkX6_build 48 rfl) (by decide) ?_
        refine lv_irem C.1 C.2.1 (dk_at dkX6_build 49 rfl) (by decide) ?_
        refine lv_ishl C.1 C.2.1 (dk_at dkX6_build 50 rfl) ?_
        refine lv_topi (fun x15 ex15 => ?_)
        have hf := nm_at ex15 hf
        refine lv_iconst (v := (-1)) C.1 C.2.1 (dk_at dkX6_build 51 rfl) (by decide) ?_
        refine lv_ixor C.1 C.2.1 (dk_at dkX6_build 52 rfl) ?_
        refine lv_iand C.1 C.2.1 (dk_at dkX6_build 53 rfl) ?_
        refine lv_topi (fun x16 ex16 => ?_)
        have hf := nm_at ex16 hf
        obtain ⟨h17, hf⟩ := gd_at hf
        refine r_iast (k := x11.toNatClampNeg) (f := st) C hK w 1 rfl h17 rfl (dk_at dkX6_build 54 rfl) (fun H locs w => ?_)
        obtain ⟨st_18, est_18⟩ : ∃ z : AI, z = upd st x11.toNatClampNeg x16 := ⟨_, rfl⟩
        have hf := nm_at est_18 hf
        have w : Wd g A Z.heap (wM g a_m st_18 now_4 isKept hearers draft dHearers dWalls toldWinds tape taped pos frm sort value fault wrongAt landed landedIn stepped isThere isAt isNext landSum heardSum allWays ways drawn lanes sizes cells torn before) H locs := by rw [est_18]; exact w
        refine lv_iload_n C.1 C.2.1 (dk_at dkX6_build 55 rfl) rfl (lv_at hl 1 rfl) ?_
        cases hf
        exact fin _ _ _ _ _ (dk_at dkX6_build 56 rfl) rfl w
      · have hf := (if_neg c12).symm.trans hf
        refine lv_aload_n C.1 C.2.1 (dk_at dkX6_build 31 rfl) rfl (lv_at hl 2 rfl) ?_
        refine r_get (v := .ref (a_m 1)) C hK w.1 (fun w h => List.mem_cons_of_mem _ (inlX6 w h)) 0 rfl rfl 0 (by decide) (List.mem_cons_of_mem _ (inr4 _ (List.mem_of_getElem? (i := 4) rfl))) rfl (dk_at dkX6_build 32 rfl) ?_
        refine lv_iload C.1 C.2.1 (dk_at dkX6_build 33 rfl) (lv_at hl 0 rfl) ?_
        obtain ⟨h19, hf⟩ := gd_at hf
        refine r_iald (k := x11.toNatClampNeg) (f := st) C hK w.1 1 rfl h19 rfl (dk_at dkX6_build 34 rfl) ?_
        refine lv_topi (fun x20 ex20 => ?_)
        have hf := nm_at ex20 hf
        refine lv_iconst (v := 1) C.1 C.2.1 (dk_at dkX6_build 35 rfl) (by decide) ?_
        refine lv_iload_n C.1 C.2.1 (dk_at dkX6_build 36 rfl) rfl (lv_at hl 3 rfl) ?_
        refine lv_bipush (v := 10) C.1 C.2.1 (dk_at dkX6_build 37 rfl) (by decide) ?_
        refine lv_irem C.1 C.2.1 (dk_at dkX6_build 38 rfl) (by decide) ?_
        refine lv_ishl C.1 C.2.1 (dk_at dkX6_build 39 rfl) ?_
        refine lv_ior C.1 C.2.1 (dk_at dkX6_build 40 rfl) ?_
        refine lv_topi (fun x21 ex21 => ?_)
        have hf := nm_at ex21 hf
        refine lv_goto (tgt := 91) C.1 C.2.1 (dk_at dkX6_build 41 rfl) (by decide) ?_
        obtain ⟨h22, hf⟩ := gd_at hf
        refine r_iast (k := x11.toNatClampNeg) (f := st) C hK w 1 rfl h22 rfl (dk_at dkX6_build 54 rfl) (fun H locs w => ?_)
        obtain ⟨st_23, est_23⟩ : ∃ z : AI, z = upd st x11.toNatClampNeg x21 := ⟨_, rfl⟩
        have hf := nm_at est_23 hf
        have w : Wd g A Z.heap (wM g a_m st_23 now_4 isKept hearers draft dHearers dWalls toldWinds tape taped pos frm sort value fault wrongAt landed landedIn stepped isThere isAt isNext landSum heardSum allWays ways drawn lanes sizes cells torn before) H locs := by rw [est_23]; exact w
        refine lv_iload_n C.1 C.2.1 (dk_at dkX6_build 55 rfl) rfl (lv_at hl 1 rfl) ?_
        cases hf
        exact fin _ _ _ _ _ (dk_at dkX6_build 56 rfl) rfl w
    · have hf := (if_neg c10).symm.trans hf
      refine lv_iload_n C.1 C.2.1 (dk_at dkX6_build 14 rfl) rfl (lv_at hl 0 rfl) ?_
      refine lv_if_ne (tgt := 42) C.1 C.2.1 (dk_at dkX6_build 15 rfl) (by decide) (fun c24 => ?_) (fun c24 => ?_)
      · have hf := (if_neg c24).symm.trans hf
        refine lv_iload_n C.1 C.2.1 (dk_at dkX6_build 22 rfl) rfl (lv_at hl 2 rfl) ?_
        refine lv_bipush (v := 10) C.1 C.2.1 (dk_at dkX6_build 23 rfl) (by decide) ?_
        refine lv_idiv C.1 C.2.1 (dk_at dkX6_build 24 rfl) (by decide) ?_
        refine lv_topi (fun x25 ex25 => ?_)
        have hf := nm_at ex25 hf
        refine lv_istore (lv' := [(4, .int x25), (3, .int r8), (0, .ref (a_m 0)), (1, .int p1), (2, .int p2)]) C.1 C.2.1 (dk_at dkX6_build 25 rfl) hl (by decide) rfl (fun ls hl => ?_)
        refine lv_aload_n C.1 C.2.1 (dk_at dkX6_build 26 rfl) rfl (lv_at hl 2 rfl) ?_
        refine r_get (v := .ref (a_m 1)) C hK w.1 (fun w h => List.mem_cons_of_mem _ (inlX6 w h)) 0 rfl rfl 0 (by decide) (List.mem_cons_of_mem _ (inr4 _ (List.mem_of_getElem? (i := 4) rfl))) rfl (dk_at dkX6_build 27 rfl) ?_
        refine lv_iload C.1 C.2.1 (dk_at dkX6_build 28 rfl) (lv_at hl 0 rfl) ?_
        refine lv_iload_n C.1 C.2.1 (dk_at dkX6_build 29 rfl) rfl (lv_at hl 4 rfl) ?_
        refine lv_if_eq (tgt := 75) C.1 C.2.1 (dk_at dkX6_build 30 rfl) (by decide) (fun c26 => ?_) (fun c26 => ?_)
        · have hf := (if_pos c26).symm.trans hf
          refine lv_aload_n C.1 C.2.1 (dk_at dkX6_build 42 rfl) rfl (lv_at hl 2 rfl) ?_
          refine r_get (v := .ref (a_m 1)) C hK w.1 (fun w h => List.mem_cons_of_mem _ (inlX6 w h)) 0 rfl rfl 0 (by decide) (List.mem_cons_of_mem _ (inr4 _ (List.mem_of_getElem? (i := 4) rfl))) rfl (dk_at dkX6_build 43 rfl) ?_
          refine lv_iload C.1 C.2.1 (dk_at dkX6_build 44 rfl) (lv_at hl 0 rfl) ?_
          obtain ⟨h27, hf⟩ := gd_at hf
          refine r_iald (k := x25.toNatClampNeg) (f := st) C hK w.1 1 rfl h27 rfl (dk_at dkX6_build 45 rfl) ?_
          refine lv_topi (fun x28 ex28 => ?_)
          have hf := nm_at ex28 hf
          refine lv_iconst (v := 1) C.1 C.2.1 (dk_at dkX6_build 46 rfl) (by decide) ?_
          refine lv_iload_n C.1 C.2.1 (dk_at dkX6_build 47 rfl) rfl (lv_at hl 3 rfl) ?_
          refine lv_bipush (v := 10) C.1 C.2.1 (dk_at dkX6_build 48 rfl) (by decide) ?_
          refine lv_irem C.1 C.2.1 (dk_at dkX6_build 49 rfl) (by decide) ?_
          refine lv_ishl C.1 C.2.1 (dk_at dkX6_build 50 rfl) ?_
          refine lv_topi (fun x29 ex29 => ?_)
          have hf := nm_at ex29 hf
          refine lv_iconst (v := (-1)) C.1 C.2.1 (dk_at dkX6_build 51 rfl) (by decide) ?_
          refine lv_ixor C.1 C.2.1 (dk_at dkX6_build 52 rfl) ?_
          refine lv_iand C.1 C.2.1 (dk_at dkX6_build 53 rfl) ?_
          refine lv_topi (fun x30 ex30 => ?_)
          have hf := nm_at ex30 hf
          obtain ⟨h31, hf⟩ := gd_at hf
          refine r_iast (k := x25.toNatClampNeg) (f := st) C hK w 1 rfl h31 rfl (dk_at dkX6_build 54 rfl) (fun H locs w => ?_)
          obtain ⟨st_32, est_32⟩ : ∃ z : AI, z = upd st x25.toNatClampNeg x30 := ⟨_, rfl⟩
          have hf := nm_at est_32 hf
          have w : Wd g A Z.heap (wM g a_m st_32 now_4 isKept hearers draft dHearers dWalls toldWinds tape taped pos frm sort value fault wrongAt landed landedIn stepped isThere isAt isNext landSum heardSum allWays ways drawn lanes sizes cells torn before) H locs := by rw [est_32]; exact w
          refine lv_iload_n C.1 C.2.1 (dk_at dkX6_build 55 rfl) rfl (lv_at hl 1 rfl) ?_
          cases hf
          exact fin _ _ _ _ _ (dk_at dkX6_build 56 rfl) rfl w
        · have hf := (if_neg c26).symm.trans hf
          refine lv_aload_n C.1 C.2.1 (dk_at dkX6_build 31 rfl) rfl (lv_at hl 2 rfl) ?_
          refine r_get (v := .ref (a_m 1)) C hK w.1 (fun w h => List.mem_cons_of_mem _ (inlX6 w h)) 0 rfl rfl 0 (by decide) (List.mem_cons_of_mem _ (inr4 _ (List.mem_of_getElem? (i := 4) rfl))) rfl (dk_at dkX6_build 32 rfl) ?_
          refine lv_iload C.1 C.2.1 (dk_at dkX6_build 33 rfl) (lv_at hl 0 rfl) ?_
          obtain ⟨h33, hf⟩ := gd_at hf
          refine r_iald (k := x25.toNatClampNeg) (f := st) C hK w.1 1 rfl h33 rfl (dk_at dkX6_build 34 rfl) ?_
          refine lv_topi (fun x34 ex34 => ?_)
          have hf := nm_at ex34 hf
          refine lv_iconst (v := 1) C.1 C.2.1 (dk_at dkX6_build 35 rfl) (by decide) ?_
          refine lv_iload_n C.1 C.2.1 (dk_at dkX6_build 36 rfl) rfl (lv_at hl 3 rfl) ?_
          refine lv_bipush (v := 10) C.1 C.2.1 (dk_at dkX6_build 37 rfl) (by decide) ?_
          refine lv_irem C.1 C.2.1 (dk_at dkX6_build 38 rfl) (by decide) ?_
          refine lv_ishl C.1 C.2.1 (dk_at dkX6_build 39 rfl) ?_
          refine lv_ior C.1 C.2.1 (dk_at dkX6_build 40 rfl) ?_
          refine lv_topi (fun x35 ex35 => ?_)
          have hf := nm_at ex35 hf
          refine lv_goto (tgt := 91) C.1 C.2.1 (dk_at dkX6_build 41 rfl) (by decide) ?_
          obtain ⟨h36, hf⟩ := gd_at hf
          refine r_iast (k := x25.toNatClampNeg) (f := st) C hK w 1 rfl h36 rfl (dk_at dkX6_build 54 rfl) (fun H locs w => ?_)
          obtain ⟨st_37, est_37⟩ : ∃ z : AI, z = upd st x25.toNatClampNeg x35 := ⟨_, rfl⟩
          have hf := nm_at est_37 hf
          have w : Wd g A Z.heap (wM g a_m st_37 now_4 isKept hearers draft dHearers dWalls toldWinds tape taped pos frm sort value fault wrongAt landed landedIn stepped isThere isAt isNext landSum heardSum allWays ways drawn lanes sizes cells torn before) H locs := by rw [est_37]; exact w
          refine lv_iload_n C.1 C.2.1 (dk_at dkX6_build 55 rfl) rfl (lv_at hl 1 rfl) ?_
          cases hf
          exact fin _ _ _ _ _ (dk_at dkX6_build 56 rfl) rfl w
      · have hf := (if_pos c24).symm.trans hf
        refine lv_aload_n C.1 C.2.1 (dk_at dkX6_build 16 rfl) rfl (lv_at hl 1 rfl) ?_
        obtain ⟨r38, hq39, hf⟩ := bd1_at hf
        refine r_roV (As := []) (rest := []) C (kX6_walls l g a_m st now_4 isKept hearers draft dHearers dWalls toldWinds tape taped pos frm sort value fault wrongAt landed landedIn stepped isThere isAt isNext landSum heardSum allWays ways drawn lanes sizes cells torn before r38 hq39) (cwV0 C (inr17 _ (List.mem_of_getElem? (i := 10) rfl)) mwX6_walls hdX6_walls ⟨Nat.le_of_ble_eq_true rfl, Nat.le_of_ble_eq_true rfl⟩) hK w.1 rfl rfl rfl hl.1 rfl (Nat.le_of_ble_eq_true rfl) ⟨Nat.zero_le _, Nat.zero_le _⟩ (dk_at dkX6_build 17 rfl) ?_
        refine lv_bipush (v := 12) C.1 C.2.1 (dk_at dkX6_build 18 rfl) (by decide) ?_
        refine lv_icmp_ne (tgt := 42) C.1 C.2.1 (dk_at dkX6_build 19 rfl) (by decide) (fun c40 => ?_) (fun c40 => ?_)
        · have hf := (if_neg c40).symm.trans hf
          refine lv_iload_n C.1 C.2.1 (dk_at dkX6_build 22 rfl) rfl (lv_at hl 2 rfl) ?_
          refine lv_bipush (v := 10) C.1 C.2.1 (dk_at dkX6_build 23 rfl) (by decide) ?_
          refine lv_idiv C.1 C.2.1 (dk_at dkX6_build 24 rfl) (by decide) ?_
          refine lv_topi (fun x41 ex41 => ?_)
          have hf := nm_at ex41 hf
          refine lv_istore (lv' := [(4, .int x41), (3, .int r8), (0, .ref (a_m 0)), (1, .int p1), (2, .int p2)]) C.1 C.2.1 (dk_at dkX6_build 25 rfl) hl (by decide) rfl (fun ls hl => ?_)
          refine lv_aload_n C.1 C.2.1 (dk_at dkX6_build 26 rfl) rfl (lv_at hl 2 rfl) ?_
          refine r_get (v := .ref (a_m 1)) C hK w.1 (fun w h => List.mem_cons_of_mem _ (inlX6 w h)) 0 rfl rfl 0 (by decide) (List.mem_cons_of_mem _ (inr4 _ (List.mem_of_getElem? (i := 4) rfl))) rfl (dk_at dkX6_build 27 rfl) ?_
          refine lv_iload C.1 C.2.1 (dk_at dkX6_build 28 rfl) (lv_at hl 0 rfl) ?_
          refine lv_iload_n C.1 C.2.1 (dk_at dkX6_build 29 rfl) rfl (lv_at hl 4 rfl) ?_
          refine lv_if_eq (tgt := 75) C.1 C.2.1 (dk_at dkX6_build 30 rfl) (by decide) (fun c42 => ?_) (fun c42 => ?_)
          · have hf := (if_pos c42).symm.trans hf
            refine lv_aload_n C.1 C.2.1 (dk_at dkX6_build 42 rfl) rfl (lv_at hl 2 rfl) ?_
            refine r_get (v := .ref (a_m 1)) C hK w.1 (fun w h => List.mem_cons_of_mem _ (inlX6 w h)) 0 rfl rfl 0 (by decide) (List.mem_cons_of_mem _ (inr4 _ (List.mem_of_getElem? (i := 4) rfl))) rfl (dk_at dkX6_build 43 rfl) ?_
            refine lv_iload C.1 C.2.1 (dk_at dkX6_build 44 rfl) (lv_at hl 0 rfl) ?_
            obtain ⟨h43, hf⟩ := gd_at hf
            refine r_iald (k := x41.toNatClampNeg) (f := st) C hK w.1 1 rfl h43 rfl (dk_at dkX6_build 45 rfl) ?_
            refine lv_topi (fun x44 ex44 => ?_)
            have hf := nm_at ex44 hf
            refine lv_iconst (v := 1) C.1 C.2.1 (dk_at dkX6_build 46 rfl) (by decide) ?_
            refine lv_iload_n C.1 C.2.1 (dk_at dkX6_build 47 rfl) rfl (lv_at hl 3 rfl) ?_
            refine lv_bipush (v := 10) C.1 C.2.1 (dk_at dkX6_build 48 rfl) (by decide) ?_
            refine lv_irem C.1 C.2.1 (dk_at dkX6_build 49 rfl) (by decide) ?_
            refine lv_ishl C.1 C.2.1 (dk_at dkX6_build 50 rfl) ?_
            refine lv_topi (fun x45 ex45 => ?_)
            have hf := nm_at ex45 hf
            refine lv_iconst (v := (-1)) C.1 C.2.1 (dk_at dkX6_build 51 rfl) (by decide) ?_
            refine lv_ixor C.1 C.2.1 (dk_at dkX6_build 52 rfl) ?_
            refine lv_iand C.1 C.2.1 (dk_at dkX6_build 53 rfl) ?_
            refine lv_topi (fun x46 ex46 => ?_)
            have hf := nm_at ex46 hf
            obtain ⟨h47, hf⟩ := gd_at hf
            refine r_iast (k := x41.toNatClampNeg) (f := st) C hK w 1 rfl h47 rfl (dk_at dkX6_build 54 rfl) (fun H locs w => ?_)
            obtain ⟨st_48, est_48⟩ : ∃ z : AI, z = upd st x41.toNatClampNeg x46 := ⟨_, rfl⟩
            have hf := nm_at est_48 hf
            have w : Wd g A Z.heap (wM g a_m st_48 now_4 isKept hearers draft dHearers dWalls toldWinds tape taped pos frm sort value fault wrongAt landed landedIn stepped isThere isAt isNext landSum heardSum allWays ways drawn lanes sizes cells torn before) H locs := by rw [est_48]; exact w
            refine lv_iload_n C.1 C.2.1 (dk_at dkX6_build 55 rfl) rfl (lv_at hl 1 rfl) ?_
            cases hf
            exact fin _ _ _ _ _ (dk_at dkX6_build 56 rfl) rfl w
          · have hf := (if_neg c42).symm.trans hf
            refine lv_aload_n C.1 C.2.1 (dk_at dkX6_build 31 rfl) rfl (lv_at hl 2 rfl) ?_
            refine r_get (v := .ref (a_m 1)) C hK w.1 (fun w h => List.mem_cons_of_mem _ (inlX6 w h)) 0 rfl rfl 0 (by decide) (List.mem_cons_of_mem _ (inr4 _ (List.mem_of_getElem? (i := 4) rfl))) rfl (dk_at dkX6_build 32 rfl) ?_
            refine lv_iload C.1 C.2.1 (dk_at dkX6_build 33 rfl) (lv_at hl 0 rfl) ?_
            obtain ⟨h49, hf⟩ := gd_at hf
            refine r_iald (k := x41.toNatClampNeg) (f := st) C hK w.1 1 rfl h49 rfl (dk_at dkX6_build 34 rfl) ?_
            refine lv_topi (fun x50 ex50 => ?_)
            have hf := nm_at ex50 hf
            refine lv_iconst (v := 1) C.1 C.2.1 (dk_at dkX6_build 35 rfl) (by decide) ?_
            refine lv_iload_n C.1 C.2.1 (dk_at dkX6_build 36 rfl) rfl (lv_at hl 3 rfl) ?_
            refine lv_bipush (v := 10) C.1 C.2.1 (dk_at dkX6_build 37 rfl) (by decide) ?_
            refine lv_irem C.1 C.2.1 (dk_at dkX6_build 38 rfl) (by decide) ?_
            refine lv_ishl C.1 C.2.1 (dk_at dkX6_build 39 rfl) ?_
            refine lv_ior C.1 C.2.1 (dk_at dkX6_build 40 rfl) ?_
            refine lv_topi (fun x51 ex51 => ?_)
            have hf := nm_at ex51 hf
            refine lv_goto (tgt := 91) C.1 C.2.1 (dk_at dkX6_build 41 rfl) (by decide) ?_
            obtain ⟨h52, hf⟩ := gd_at hf
            refine r_iast (k := x41.toNatClampNeg) (f := st) C hK w 1 rfl h52 rfl (dk_at dkX6_build 54 rfl) (fun H locs w => ?_)
            obtain ⟨st_53, est_53⟩ : ∃ z : AI, z = upd st x41.toNatClampNeg x51 := ⟨_, rfl⟩
            have hf := nm_at est_53 hf
            have w : Wd g A Z.heap (wM g a_m st_53 now_4 isKept hearers draft dHearers dWalls toldWinds tape taped pos frm sort value fault wrongAt landed landedIn stepped isThere isAt isNext landSum heardSum allWays ways drawn lanes sizes cells torn before) H locs := by rw [est_53]; exact w
            refine lv_iload_n C.1 C.2.1 (dk_at dkX6_build 55 rfl) rfl (lv_at hl 1 rfl) ?_
            cases hf
            exact fin _ _ _ _ _ (dk_at dkX6_build 56 rfl) rfl w
        · have hf := (if_pos c40).symm.trans hf
          refine lv_bipush (v := (-3)) C.1 C.2.1 (dk_at dkX6_build 20 rfl) (by decide) ?_
          cases hf
          exact fin _ _ _ _ _ (dk_at dkX6_build 21 rfl) rfl w
  · have hf := (if_pos c3).symm.trans hf
    refine lv_iconst (v := (-1)) C.1 C.2.1 (dk_at dkX6_build 3 rfl) (by decide) ?_
    cases hf
    exact fin _ _ _ _ _ (dk_at dkX6_build 4 rfl) rfl w
-- X6.blow
abbrev tbX6_blow : List (Nat × Instr × Nat) := [(0, .iload_n 1, 1), (1, .i2l, 1), (2, .lconst 0, 1), (3, .ldc2_w 222, 3), (6, .invokestatic 83, 3), (9, .ifCond .eq 27, 3), (12, .iload_n 2, 1), (13, .i2l, 1), (14, .lconst 0, 1), (15, .ldc2_w 233, 3), (18, .invokestatic 83, 3), (21, .ifCond .eq 15, 3), (24, .aload_n 0, 1), (25, .bipush 8, 2), (27, .iload_n 1, 1), (28, .iadd, 1), (29, .iload_n 2, 1), (30, .invokevirtual 230, 3), (33, .goto 4, 3), (36, .iconst (-1), 1), (37, .ireturn, 1)]
theorem dkX6_blow : dk cX6_blow tbX6_blow := dk_of (by decide +kernel)
abbrev cdX6_blow : Cond := Cond.code yX6_blow cX6_blow 3 (some .int)
abbrev rmX6_blow : Room := { frames := 1, cells := 0, slots := 0, locals := 25 }
theorem mwX6_blow : Cond.instanceMethod yX6_blow ∈ wsL_law ∧ Cond.selects RX6 yX6_blow yX6_blow ∈ wsL_law ∧ Cond.initialized RX6 ∈ wsL_law ∧ cdX6_blow ∈ wsL_law := ⟨inr22 _ (List.mem_of_getElem? (i := 7) rfl), inr22 _ (List.mem_of_getElem? (i := 8) rfl), inr1 _ (List.mem_of_getElem? (i := 5) rfl), inr22 _ (List.mem_of_getElem? (i := 9) rfl)⟩
theorem hdX6_blow : yX6_blow.cls = RX6 ∧ yX6_blow.cls ≠ "java/lang/invoke/MethodHandle" ∧ yX6_blow.cls ≠ "java/lang/invoke/VarHandle" ∧ (parseMethodDescriptor yX6_blow.desc).map (fun d => d.parameters.length) = some 2 := by decide +kernel
set_option maxHeartbeats 4000000 in
set_option maxRecDepth 100000 in
theorem kX6_blow (l : Launch) (g : Gx) (sz : Nat) (a_m : Nat → Nat) (st : AI) (now : AI) (isKept : AI) (hearers : Int32) (draft : AI) (dHearers : Int32) (dWalls : Int32) (toldWinds : Int32) (tape : AI) (taped : Int32) (pos : Int32) (frm : Int32) (sort : Int32) (value : Int32) (fault : Int32) (wrongAt : Int32) (landed : AI) (landedIn : AI) (stepped : AI) (isThere : AI) (isAt : AI) (isNext : AI) (landSum : Int64) (heardSum : Int64) (allWays : Int64) (ways : AI) (drawn : AI) (lanes : AI) (sizes : AI) (cells : AI) (torn : Int32) (before : AI) (p1 : Int32) (p2 : Int32) (res : Int32) (st_o : AI) (hf : fX6_blow p1 p2 st = some (res, st_o)) : Met l yX6_blow (cdX6_blow :: wsL_law) rmX6_blow (va_Pc [.ref (a_m 0), .int p1, .int p2] (RWp g sz (wM g a_m st now isKept hearers draft dHearers dWalls toldWinds tape taped pos frm sort value fault wrongAt landed landedIn stepped isThere isAt isNext landSum heardSum allWays ways drawn lanes sizes cells torn before))) (va_Qi (fun x (_ : Unit) => x = res) (fun _ => RWq g (va_A (wM g a_m st now isKept hearers draft dHearers dWalls toldWinds tape taped pos frm sort value fault wrongAt landed landedIn stepped isThere isAt isNext landSum heardSum allWays ways drawn lanes sizes cells torn before) sz) (wM g a_m st_o now isKept hearers draft dHearers dWalls toldWinds tape taped pos frm sort value fault wrongAt landed landedIn stepped isThere isAt isNext landSum heardSum allWays ways drawn lanes sizes cells torn before)) (va_A (wM g a_m st now isKept hearers draft dHearers dWalls toldWinds tape taped pos frm sort value fault wrongAt landed landedIn stepped isThere isAt isNext landSum heardSum allWays ways drawn lanes sizes cells torn before) sz)) 0 0 (va_A (wM g a_m st now isKept hearers draft dHearers dWalls toldWinds tape taped pos frm sort value fault wrongAt landed landedIn stepped isThere isAt isNext landSum heardSum allWays ways drawn lanes sizes cells torn before) sz) := by
  refine Met_rwi (cc := cX6_blow) (maxL := 3) (by decide) rfl (Nat.le_of_ble_eq_true rfl) ?_
  intro P E Z Mi AR BE ME CO A Q C hK hA fin w ls hl
  have hl : lv_has ls 3 [(0, .ref (a_m 0)), (1, .int p1), (2, .int p2)] := hl
  unfold fX6_blow at hf
  refine lv_iload_n C.1 C.2.1 (dk_at dkX6_blow 0 rfl) rfl (lv_at hl 1 rfl) ?_
  refine lv_i2l C.1 C.2.1 (dk_at dkX6_blow 1 rfl) rfl ?_
  refine lv_topl (fun x1 ex1 => ?_)
  have hf := nm_at ex1 hf
  refine lv_lconst (v := 0) C.1 C.2.1 (dk_at dkX6_blow 2 rfl) (by decide) ?_
  refine lv_ldc2 (v := 9) C.1 C.2.1 C.2.2.2.1 (C.2.2.2.2 _ (List.mem_cons_of_mem _ (inr20 _ (List.mem_of_getElem? (i := 16) rfl)))) (dk_at dkX6_blow 3 rfl) ?_
  obtain ⟨r2, hq3, hf⟩ := bd1_at hf
  refine r_st (As := [.long x1, .long 0, .long 9]) (rest := []) C (kX6_in l x1 0 9 r2 hq3) (cwS0 C (inr5 _ (List.mem_of_getElem? (i := 21) rfl)) mwX6_in hdX6_in ⟨Nat.le_of_ble_eq_true rfl, Nat.le_of_ble_eq_true rfl⟩) rfl hl.1 rfl (Nat.le_of_ble_eq_true rfl) ⟨Nat.zero_le _, Nat.zero_le _⟩ (dk_at dkX6_blow 4 rfl) ?_
  refine lv_if_eq (tgt := 36) C.1 C.2.1 (dk_at dkX6_blow 5 rfl) (by decide) (fun c4 => ?_) (fun c4 => ?_)
  · have hf := (if_pos c4).symm.trans hf
    refine lv_iconst (v := (-1)) C.1 C.2.1 (dk_at dkX6_blow 19 rfl) (by decide) ?_
    cases hf
    exact fin _ _ _ _ _ (dk_at dkX6_blow 20 rfl) rfl w
  · have hf := (if_neg c4).symm.trans hf
    refine lv_iload_n C.1 C.2.1 (dk_at dkX6_blow 6 rfl) rfl (lv_at hl 2 rfl) ?_
    refine lv_i2l C.1 C.2.1 (dk_at dkX6_blow 7 rfl) rfl ?_
    refine lv_topl (fun x5 ex5 => ?_)
    have hf := nm_at ex5 hf
    refine lv_lconst (v := 0) C.1 C.2.1 (dk_at dkX6_blow 8 rfl) (by decide) ?_
    refine lv_ldc2 (v := 4) C.1 C.2.1 C.2.2.2.1 (C.2.2.2.2 _ (List.mem_cons_of_mem _ (inr22 _ (List.mem_of_getElem? (i := 10) rfl)))) (dk_at dkX6_blow 9 rfl) ?_
    obtain ⟨r6, hq7, hf⟩ := bd1_at hf
    refine r_st (As := [.long x5, .long 0, .long 4]) (rest := []) C (kX6_in l x5 0 4 r6 hq7) (cwS0 C (inr5 _ (List.mem_of_getElem? (i := 21) rfl)) mwX6_in hdX6_in ⟨Nat.le_of_ble_eq_true rfl, Nat.le_of_ble_eq_true rfl⟩) rfl hl.1 rfl (Nat.le_of_ble_eq_true rfl) ⟨Nat.zero_le _, Nat.zero_le _⟩ (dk_at dkX6_blow 10 rfl) ?_
    refine lv_if_eq (tgt := 36) C.1 C.2.1 (dk_at dkX6_blow 11 rfl) (by decide) (fun c8 => ?_) (fun c8 => ?_)
    · have hf := (if_pos c8).symm.trans hf
      refine lv_iconst (v := (-1)) C.1 C.2.1 (dk_at dkX6_blow 19 rfl) (by decide) ?_
      cases hf
      exact fin _ _ _ _ _ (dk_at dkX6_blow 20 rfl) rfl w
    · have hf := (if_neg c8).symm.trans hf
      refine lv_aload_n C.1 C.2.1 (dk_at dkX6_blow 12 rfl) rfl (lv_at hl 0 rfl) ?_
      refine lv_bipush (v := 8) C.1 C.2.1 (dk_at dkX6_blow 13 rfl) (by decide) ?_
      refine lv_iload_n C.1 C.2.1 (dk_at dkX6_blow 14 rfl) rfl (lv_at hl 1 rfl) ?_
      refine lv_iadd C.1 C.2.1 (dk_at dkX6_blow 15 rfl) ?_
      refine lv_topi (fun x9 ex9 => ?_)
      have hf := nm_at ex9 hf
      refine lv_iload_n C.1 C.2.1 (dk_at dkX6_blow 16 rfl) rfl (lv_at hl 2 rfl) ?_
      obtain ⟨r10, st_11, hq12, hf⟩ := bd2_at hf
      refine r_rwi (As := [.int x9, .int p2]) (rest := []) (wr := []) (ws' := wM g a_m st_11 now isKept hearers draft dHearers dWalls toldWinds tape taped pos frm sort value fault wrongAt landed landedIn stepped isThere isAt isNext landSum heardSum allWays ways drawn lanes sizes cells torn before) C (kX6_becomes l g _ a_m st now isKept hearers draft dHearers dWalls toldWinds tape taped pos frm sort value fault wrongAt landed landedIn stepped isThere isAt isNext landSum heardSum allWays ways drawn lanes sizes cells torn before x9 p2 r10 st_11 hq12) (cwV0 C (inr21 _ (List.mem_of_getElem? (i := 5) rfl)) mwX6_becomes hdX6_becomes ⟨Nat.le_of_ble_eq_true rfl, Nat.le_of_ble_eq_true rfl⟩) hK w hA [0, 1, 2, 3, 4, 5, 6, 7, 8, 9, 10, 11, 12, 13, 14, 15, 16, 17] [] [0, 1, 2, 3, 4, 5, 6, 7, 8, 9, 10, 11, 12, 13, 14, 15, 16, 17] (by decide) rfl rfl (by decide) (by decide) rfl (by decide) rfl rfl rfl hl.1 rfl (Nat.le_of_ble_eq_true rfl) ⟨Nat.zero_le _, Nat.zero_le _⟩ (dk_at dkX6_blow 17 rfl) (fun H locs w => ?_)
      refine lv_goto (tgt := 37) C.1 C.2.1 (dk_at dkX6_blow 18 rfl) (by decide) ?_
      cases hf
      exact fin _ _ _ _ _ (dk_at dkX6_blow 20 rfl) rfl w
-- X6.say
abbrev tbX6_say : List (Nat × Instr × Nat) := [(0, .iload_n 1, 1), (1, .invokestatic 140, 3), (4, .ifCond .eq 27, 3), (7, .iload_n 2, 1), (8, .i2l, 1), (9, .lconst 0, 1), (10, .ldc2_w 224, 3), (13, .invokestatic 83, 3), (16, .ifCond .eq 15, 3), (19, .iload_n 3, 1), (20, .i2l, 1), (21, .lconst 1, 1), (22, .ldc2_w 222, 3), (25, .invokestatic 83, 3), (28, .ifCond .ne 5, 3), (31, .iconst (-1), 1), (32, .ireturn, 1), (33, .aload_n 0, 1), (34, .getfield 7, 3), (37, .bipush 43, 2), (39, .iaload, 1), (40, .iconst 5, 1), (41, .if_icmp .ne 6, 3), (44, .bipush (-3), 2), (46, .ireturn, 1), (47, .bipush 18, 2), (49, .iconst 5, 1), (50, .aload_n 0, 1), (51, .getfield 7, 3), (54, .bipush 43, 2), (56, .iaload, 1), (57, .imul, 1), (58, .iadd, 1), (59, .istore 4, 2), (61, .aload_n 0, 1), (62, .getfield 7, 3), (65, .iload 4, 2), (67, .iconst 0, 1), (68, .iadd, 1), (69, .iconst 0, 1), (70, .iastore, 1), (71, .aload_n 0, 1), (72, .getfield 7, 3), (75, .iload 4, 2), (77, .iconst 1, 1), (78, .iadd, 1), (79, .iload_n 1, 1), (80, .iastore, 1), (81, .aload_n 0, 1), (82, .getfield 7, 3), (85, .iload 4, 2), (87, .iconst 2, 1), (88, .iadd, 1), (89, .iload_n 2, 1), (90, .iastore, 1), (91, .aload_n 0, 1), (92, .getfield 7, 3), (95, .iload 4, 2), (97, .iconst 3, 1), (98, .iadd, 1), (99, .iload_n 3, 1), (100, .iastore, 1), (101, .aload_n 0, 1), (102, .getfield 7, 3), (105, .iload 4, 2), (107, .iconst 4, 1), (108, .iadd, 1), (109, .iconst 0, 1), (110, .iastore, 1), (111, .aload_n 0, 1), (112, .getfield 7, 3), (115, .bipush 43, 2), (117, .dup2, 1), (118, .iaload, 1), (119, .iconst 1, 1), (120, .iadd, 1), (121, .iastore, 1), (122, .aload_n 0, 1), (123, .getfield 7, 3), (126, .bipush 43, 2), (128, .iaload, 1), (129, .iconst 1, 1), (130, .isub, 1), (131, .ireturn, 1)]
theorem dkX6_say : dk cX6_say tbX6_say := dk_of (by decide +kernel)
abbrev cdX6_say : Cond := Cond.code yX6_say cX6_say 5 (some .int)
abbrev rmX6_say : Room := { frames := 1, cells := 0, slots := 0, locals := 25 }
theorem mwX6_say : Cond.instanceMethod yX6_say ∈ wsL_law ∧ Cond.selects RX6 yX6_say yX6_say ∈ wsL_law ∧ Cond.initialized RX6 ∈ wsL_law ∧ cdX6_say ∈ wsL_law := ⟨inr22 _ (List.mem_of_getElem? (i := 21) rfl), inr22 _ (List.mem_of_getElem? (i := 22) rfl), inr1 _ (List.mem_of_getElem? (i := 5) rfl), inr22 _ (List.mem_of_getElem? (i := 23) rfl)⟩
theorem hdX6_say : yX6_say.cls = RX6 ∧ yX6_say.cls ≠ "java/lang/invoke/MethodHandle" ∧ yX6_say.cls ≠ "java/lang/invoke/VarHandle" ∧ (parseMethodDescriptor yX6_say.desc).map (fun d => d.parameters.length) = some 3 := by decide +kernel
set_option maxHeartbeats 4000000 in
set_option maxRecDepth 100000 in
theorem kX6_say (l : Launch) (g : Gx) (sz : Nat) (a_m : Nat → Nat) (st : AI) (now : AI) (isKept : AI) (hearers : Int32) (draft : AI) (dHearers : Int32) (dWalls : Int32) (toldWinds : Int32) (tape : AI) (taped : Int32) (pos : Int32) (frm : Int32) (sort : Int32) (value : Int32) (fault : Int32) (wrongAt : Int32) (landed : AI) (landedIn : AI) (stepped : AI) (isThere : AI) (isAt : AI) (isNext : AI) (landSum : Int64) (heardSum : Int64) (allWays : Int64) (ways : AI) (drawn : AI) (lanes : AI) (sizes : AI) (cells : AI) (torn : Int32) (before : AI) (p1 : Int32) (p2 : Int32) (p3 : Int32) (res : Int32) (st_o : AI) (hf : fX6_say p1 p2 p3 st = some (res, st_o)) : Met l yX6_say (cdX6_say :: wsL_law) rmX6_say (va_Pc [.ref (a_m 0), .int p1, .int p2, .int p3] (RWp g sz (wM g a_m st now isKept hearers draft dHearers dWalls toldWinds tape taped pos frm sort value fault wrongAt landed landedIn stepped isThere isAt isNext landSum heardSum allWays ways drawn lanes sizes cells torn before))) (va_Qi (fun x (_ : Unit) => x = res) (fun _ => RWq g (va_A (wM g a_m st now isKept hearers draft dHearers dWalls toldWinds tape taped pos frm sort value fault wrongAt landed landedIn stepped isThere isAt isNext landSum heardSum allWays ways drawn lanes sizes cells torn before) sz) (wM g a_m st_o now isKept hearers draft dHearers dWalls toldWinds tape taped pos frm sort value fault wrongAt landed landedIn stepped isThere isAt isNext landSum heardSum allWays ways drawn lanes sizes cells torn before)) (va_A (wM g a_m st now isKept hearers draft dHearers dWalls toldWinds tape taped pos frm sort value fault wrongAt landed landedIn stepped isThere isAt isNext landSum heardSum allWays ways drawn lanes sizes cells torn before) sz)) 0 0 (va_A (wM g a_m st now isKept hearers draft dHearers dWalls toldWinds tape taped pos frm sort value fault wrongAt landed landedIn stepped isThere isAt isNext landSum heardSum allWays ways drawn lanes sizes cells torn before) sz) := by
  refine Met_rwi (cc := cX6_say) (maxL := 5) (by decide) rfl (Nat.le_of_ble_eq_true rfl) ?_
  intro P E Z Mi AR BE ME CO A Q C hK hA fin w ls hl
  have hl : lv_has ls 5 [(0, .ref (a_m 0)), (1, .int p1), (2, .int p2), (3, .int p3)] := hl
  unfold fX6_say at hf
  refine lv_iload_n C.1 C.2.1 (dk_at dkX6_say 0 rfl) rfl (lv_at hl 1 rfl) ?_
  obtain ⟨r1, hq2, hf⟩ := bd1_at hf
  refine r_st (As := [.int p1]) (rest := []) C (kX6_isCell l p1 r1 hq2) (cwS0 C (inr15 _ (List.mem_of_getElem? (i := 8) rfl)) mwX6_isCell hdX6_isCell ⟨Nat.le_of_ble_eq_true rfl, Nat.le_of_ble_eq_true rfl⟩) rfl hl.1 rfl (Nat.le_of_ble_eq_true rfl) ⟨Nat.zero_le _, Nat.zero_le _⟩ (dk_at dkX6_say 1 rfl) ?_
  refine lv_if_eq (tgt := 31) C.1 C.2.1 (dk_at dkX6_say 2 rfl) (by decide) (fun c3 => ?_) (fun c3 => ?_)
  · have hf := (if_pos c3).symm.trans hf
    refine lv_iconst (v := (-1)) C.1 C.2.1 (dk_at dkX6_say 15 rfl) (by decide) ?_
    cases hf
    exact fin _ _ _ _ _ (dk_at dkX6_say 16 rfl) rfl w
  · have hf := (if_neg c3).symm.trans hf
    refine lv_iload_n C.1 C.2.1 (dk_at dkX6_say 3 rfl) rfl (lv_at hl 2 rfl) ?_
    refine lv_i2l C.1 C.2.1 (dk_at dkX6_say 4 rfl) rfl ?_
    refine lv_topl (fun x4 ex4 => ?_)
    have hf := nm_at ex4 hf
    refine lv_lconst (v := 0) C.1 C.2.1 (dk_at dkX6_say 5 rfl) (by decide) ?_
    refine lv_ldc2 (v := 3) C.1 C.2.1 C.2.2.2.1 (C.2.2.2.2 _ (List.mem_cons_of_mem _ (inr21 _ (List.mem_of_getElem? (i := 4) rfl)))) (dk_at dkX6_say 6 rfl) ?_
    obtain ⟨r5, hq6, hf⟩ := bd1_at hf
    refine r_st (As := [.long x4, .long 0, .long 3]) (rest := []) C (kX6_in l x4 0 3 r5 hq6) (cwS0 C (inr5 _ (List.mem_of_getElem? (i := 21) rfl)) mwX6_in hdX6_in ⟨Nat.le_of_ble_eq_true rfl, Nat.le_of_ble_eq_true rfl⟩) rfl hl.1 rfl (Nat.le_of_ble_eq_true rfl) ⟨Nat.zero_le _, Nat.zero_le _⟩ (dk_at dkX6_say 7 rfl) ?_
    refine lv_if_eq (tgt := 31) C.1 C.2.1 (dk_at dkX6_say 8 rfl) (by decide) (fun c7 => ?_) (fun c7 => ?_)
    · have hf := (if_pos c7).symm.trans hf
      refine lv_iconst (v := (-1)) C.1 C.2.1 (dk_at dkX6_say 15 rfl) (by decide) ?_
      cases hf
      exact fin _ _ _ _ _ (dk_at dkX6_say 16 rfl) rfl w
    · have hf := (if_neg c7).symm.trans hf
      refine lv_iload_n C.1 C.2.1 (dk_at dkX6_say 9 rfl) rfl (lv_at hl 3 rfl) ?_
      refine lv_i2l C.1 C.2.1 (dk_at dkX6_say 10 rfl) rfl ?_
      refine lv_topl (fun x8 ex8 => ?_)
      have hf := nm_at ex8 hf
      refine lv_lconst (v := 1) C.1 C.2.1 (dk_at dkX6_say 11 rfl) (by decide) ?_
      refine lv_ldc2 (v := 9) C.1 C.2.1 C.2.2.2.1 (C.2.2.2.2 _ (List.mem_cons_of_mem _ (inr20 _ (List.mem_of_getElem? (i := 16) rfl)))) (dk_at dkX6_say 12 rfl) ?_
      obtain ⟨r9, hq10, hf⟩ := bd1_at hf
      refine r_st (As := [.long x8, .long 1, .long 9]) (rest := []) C (kX6_in l x8 1 9 r9 hq10) (cwS0 C (inr5 _ (List.mem_of_getElem? (i := 21) rfl)) mwX6_in hdX6_in ⟨Nat.le_of_ble_eq_true rfl, Nat.le_of_ble_eq_true rfl⟩) rfl hl.1 rfl (Nat.le_of_ble_eq_true rfl) ⟨Nat.zero_le _, Nat.zero_le _⟩ (dk_at dkX6_say 13 rfl) ?_
      refine lv_if_ne (tgt := 33) C.1 C.2.1 (dk_at dkX6_say 14 rfl) (by decide) (fun c11 => ?_) (fun c11 => ?_)
      · have hf := (if_neg c11).symm.trans hf
        refine lv_aload_n C.1 C.2.1 (dk_at dkX6_say 17 rfl) rfl (lv_at hl 0 rfl) ?_
        refine r_get (v := .ref (a_m 1)) C hK w.1 (fun w h => List.mem_cons_of_mem _ (inlX6 w h)) 0 rfl rfl 0 (by decide) (List.mem_cons_of_mem _ (inr4 _ (List.mem_of_getElem? (i := 4) rfl))) rfl (dk_at dkX6_say 18 rfl) ?_
        refine lv_bipush (v := 43) C.1 C.2.1 (dk_at dkX6_say 19 rfl) (by decide) ?_
        refine r_iald (k := 43) (f := st) C hK w.1 1 rfl (in_c (by decide)) (by decide) (dk_at dkX6_say 20 rfl) ?_
        refine lv_topi (fun x12 ex12 => ?_)
        have hf := nm_at ex12 hf
        refine lv_iconst (v := 5) C.1 C.2.1 (dk_at dkX6_say 21 rfl) (by decide) ?_
        refine lv_icmp_ne (tgt := 47) C.1 C.2.1 (dk_at dkX6_say 22 rfl) (by decide) (fun c13 => ?_) (fun c13 => ?_)
        · have hf := (if_neg c13).symm.trans hf
          refine lv_bipush (v := 18) C.1 C.2.1 (dk_at dkX6_say 25 rfl) (by decide) ?_
          refine lv_iconst (v := 5) C.1 C.2.1 (dk_at dkX6_say 26 rfl) (by decide) ?_
          refine lv_aload_n C.1 C.2.1 (dk_at dkX6_say 27 rfl) rfl (lv_at hl 0 rfl) ?_
          refine r_get (v := .ref (a_m 1)) C hK w.1 (fun w h => List.mem_cons_of_mem _ (inlX6 w h)) 0 rfl rfl 0 (by decide) (List.mem_cons_of_mem _ (inr4 _ (List.mem_of_getElem? (i := 4) rfl))) rfl (dk_at dkX6_say 28 rfl) ?_
          refine lv_bipush (v := 43) C.1 C.2.1 (dk_at dkX6_say 29 rfl) (by decide) ?_
          refine r_iald (k := 43) (f := st) C hK w.1 1 rfl (in_c (by decide)) (by decide) (dk_at dkX6_say 30 rfl) ?_
          refine lv_imul C.1 C.2.1 (dk_at dkX6_say 31 rfl) ?_
          refine lv_iadd C.1 C.2.1 (dk_at dkX6_say 32 rfl) ?_
          refine lv_topi (fun x14 ex14 => ?_)
          have hf := nm_at ex14 hf
          refine lv_istore (lv' := [(4, .int x14), (0, .ref (a_m 0)), (1, .int p1), (2, .int p2), (3, .int p3)]) C.1 C.2.1 (dk_at dkX6_say 33 rfl) hl (by decide) rfl (fun ls hl => ?_)
          refine lv_aload_n C.1 C.2.1 (dk_at dkX6_say 34 rfl) rfl (lv_at hl 1 rfl) ?_
          refine r_get (v := .ref (a_m 1)) C hK w.1 (fun w h => List.mem_cons_of_mem _ (inlX6 w h)) 0 rfl rfl 0 (by decide) (List.mem_cons_of_mem _ (inr4 _ (List.mem_of_getElem? (i := 4) rfl))) rfl (dk_at dkX6_say 35 rfl) ?_
          refine lv_iload C.1 C.2.1 (dk_at dkX6_say 36 rfl) (lv_at hl 0 rfl) ?_
          refine lv_iconst (v := 0) C.1 C.2.1 (dk_at dkX6_say 37 rfl) (by decide) ?_
          refine lv_iadd C.1 C.2.1 (dk_at dkX6_say 38 rfl) ?_
          refine lv_topi (fun x15 ex15 => ?_)
          have hf := nm_at ex15 hf
          refine lv_iconst (v := 0) C.1 C.2.1 (dk_at dkX6_say 39 rfl) (by decide) ?_
          obtain ⟨h16, hf⟩ := gd_at hf
          refine r_iast (k := x15.toNatClampNeg) (f := st) C hK w 1 rfl h16 rfl (dk_at dkX6_say 40 rfl) (fun H locs w => ?_)
          obtain ⟨st_17, est_17⟩ : ∃ z : AI, z = upd st x15.toNatClampNeg 0 := ⟨_, rfl⟩
          have hf := nm_at est_17 hf
          have w : Wd g A Z.heap (wM g a_m st_17 now isKept hearers draft dHearers dWalls toldWinds tape taped pos frm sort value fault wrongAt landed landedIn stepped isThere isAt isNext landSum heardSum allWays ways drawn lanes sizes cells torn before) H locs := by rw [est_17]; exact w
          refine lv_aload_n C.1 C.2.1 (dk_at dkX6_say 41 rfl) rfl (lv_at hl 1 rfl) ?_
          refine r_get (v := .ref (a_m 1)) C hK w.1 (fun w h => List.mem_cons_of_mem _ (inlX6 w h)) 0 rfl rfl 0 (by decide) (List.mem_cons_of_mem _ (inr4 _ (List.mem_of_getElem? (i := 4) rfl))) rfl (dk_at dkX6_say 42 rfl) ?_
          refine lv_iload C.1 C.2.1 (dk_at dkX6_say 43 rfl) (lv_at hl 0 rfl) ?_
          refine lv_iconst (v := 1) C.1 C.2.1 (dk_at dkX6_say 44 rfl) (by decide) ?_
          refine lv_iadd C.1 C.2.1 (dk_at dkX6_say 45 rfl) ?_
          refine lv_topi (fun x18 ex18 => ?_)
          have hf := nm_at ex18 hf
          refine lv_iload_n C.1 C.2.1 (dk_at dkX6_say 46 rfl) rfl (lv_at hl 2 rfl) ?_
          obtain ⟨h19, hf⟩ := gd_at hf
          refine r_iast (k := x18.toNatClampNeg) (f := st_17) C hK w 1 rfl h19 rfl (dk_at dkX6_say 47 rfl) (fun H locs w => ?_)
          obtain ⟨st_20, est_20⟩ : ∃ z : AI, z = upd st_17 x18.toNatClampNeg p1 := ⟨_, rfl⟩
          have hf := nm_at est_20 hf
          have w : Wd g A Z.heap (wM g a_m st_20 now isKept hearers draft dHearers dWalls toldWinds tape taped pos frm sort value fault wrongAt landed landedIn stepped isThere isAt isNext landSum heardSum allWays ways drawn lanes sizes cells torn before) H locs := by rw [est_20]; exact w
          refine lv_aload_n C.1 C.2.1 (dk_at dkX6_say 48 rfl) rfl (lv_at hl 1 rfl) ?_
          refine r_get (v := .ref (a_m 1)) C hK w.1 (fun w h => List.mem_cons_of_mem _ (inlX6 w h)) 0 rfl rfl 0 (by decide) (List.mem_cons_of_mem _ (inr4 _ (List.mem_of_getElem? (i := 4) rfl))) rfl (dk_at dkX6_say 49 rfl) ?_
          refine lv_iload C.1 C.2.1 (dk_at dkX6_say 50 rfl) (lv_at hl 0 rfl) ?_
          refine lv_iconst (v := 2) C.1 C.2.1 (dk_at dkX6_say 51 rfl) (by decide) ?_
          refine lv_iadd C.1 C.2.1 (dk_at dkX6_say 52 rfl) ?_
          refine lv_topi (fun x21 ex21 => ?_)
          have hf := nm_at ex21 hf
          refine lv_iload_n C.1 C.2.1 (dk_at dkX6_say 53 rfl) rfl (lv_at hl 3 rfl) ?_
          obtain ⟨h22, hf⟩ := gd_at hf
          refine r_iast (k := x21.toNatClampNeg) (f := st_20) C hK w 1 rfl h22 rfl (dk_at dkX6_say 54 rfl) (fun H locs w => ?_)
          obtain ⟨st_23, est_23⟩ : ∃ z : AI, z = upd st_20 x21.toNatClampNeg p2 := ⟨_, rfl⟩
          have hf := nm_at est_23 hf
          have w : Wd g A Z.heap (wM g a_m st_23 now isKept hearers draft dHearers dWalls toldWinds tape taped pos frm sort value fault wrongAt landed landedIn stepped isThere isAt isNext landSum heardSum allWays ways drawn lanes sizes cells torn before) H locs := by rw [est_23]; exact w
          refine lv_aload_n C.1 C.2.1 (dk_at dkX6_say 55 rfl) rfl (lv_at hl 1 rfl) ?_
          refine r_get (v := .ref (a_m 1)) C hK w.1 (fun w h => List.mem_cons_of_mem _ (inlX6 w h)) 0 rfl rfl 0 (by decide) (List.mem_cons_of_mem _ (inr4 _ (List.mem_of_getElem? (i := 4) rfl))) rfl (dk_at dkX6_say 56 rfl) ?_
          refine lv_iload C.1 C.2.1 (dk_at dkX6_say 57 rfl) (lv_at hl 0 rfl) ?_
          refine lv_iconst (v := 3) C.1 C.2.1 (dk_at dkX6_say 58 rfl) (by decide) ?_
          refine lv_iadd C.1 C.2.1 (dk_at dkX6_say 59 rfl) ?_
          refine lv_topi (fun x24 ex24 => ?_)
          have hf := nm_at ex24 hf
          refine lv_iload_n C.1 C.2.1 (dk_at dkX6_say 60 rfl) rfl (lv_at hl 4 rfl) ?_
          obtain ⟨h25, hf⟩ := gd_at hf
          refine r_iast (k := x24.toNatClampNeg) (f := st_23) C hK w 1 rfl h25 rfl (dk_at dkX6_say 61 rfl) (fun H locs w => ?_)
          obtain ⟨st_26, est_26⟩ : ∃ z : AI, z = upd st_23 x24.toNatClampNeg p3 := ⟨_, rfl⟩
          have hf := nm_at est_26 hf
          have w : Wd g A Z.heap (wM g a_m st_26 now isKept hearers draft dHearers dWalls toldWinds tape taped pos frm sort value fault wrongAt landed landedIn stepped isThere isAt isNext landSum heardSum allWays ways drawn lanes sizes cells torn before) H locs := by rw [est_26]; exact w
          refine lv_aload_n C.1 C.2.1 (dk_at dkX6_say 62 rfl) rfl (lv_at hl 1 rfl) ?_
          refine r_get (v := .ref (a_m 1)) C hK w.1 (fun w h => List.mem_cons_of_mem _ (inlX6 w h)) 0 rfl rfl 0 (by decide) (List.mem_cons_of_mem _ (inr4 _ (List.mem_of_getElem? (i := 4) rfl))) rfl (dk_at dkX6_say 63 rfl) ?_
          refine lv_iload C.1 C.2.1 (dk_at dkX6_say 64 rfl) (lv_at hl 0 rfl) ?_
          refine lv_iconst (v := 4) C.1 C.2.1 (dk_at dkX6_say 65 rfl) (by decide) ?_
          refine lv_iadd C.1 C.2.1 (dk_at dkX6_say 66 rfl) ?_
          refine lv_topi (fun x27 ex27 => ?_)
          have hf := nm_at ex27 hf
          refine lv_iconst (v := 0) C.1 C.2.1 (dk_at dkX6_say 67 rfl) (by decide) ?_
          obtain ⟨h28, hf⟩ := gd_at hf
          refine r_iast (k := x27.toNatClampNeg) (f := st_26) C hK w 1 rfl h28 rfl (dk_at dkX6_say 68 rfl) (fun H locs w => ?_)
          obtain ⟨st_29, est_29⟩ : ∃ z : AI, z = upd st_26 x27.toNatClampNeg 0 := ⟨_, rfl⟩
          have hf := nm_at est_29 hf
          have w : Wd g A Z.heap (wM g a_m st_29 now isKept hearers draft dHearers dWalls toldWinds tape taped pos frm sort value fault wrongAt landed landedIn stepped isThere isAt isNext landSum heardSum allWays ways drawn lanes sizes cells torn before) H locs := by rw [est_29]; exact w
          refine lv_aload_n C.1 C.2.1 (dk_at dkX6_say 69 rfl) rfl (lv_at hl 1 rfl) ?_
          refine r_get (v := .ref (a_m 1)) C hK w.1 (fun w h => List.mem_cons_of_mem _ (inlX6 w h)) 0 rfl rfl 0 (by decide) (List.mem_cons_of_mem _ (inr4 _ (List.mem_of_getElem? (i := 4) rfl))) rfl (dk_at dkX6_say 70 rfl) ?_
          refine lv_bipush (v := 43) C.1 C.2.1 (dk_at dkX6_say 71 rfl) (by decide) ?_
          refine lv_dup2_11 C.1 C.2.1 (dk_at dkX6_say 72 rfl) rfl rfl ?_
          refine r_iald (k := 43) (f := st_29) C hK w.1 1 rfl (in_c (by decide)) (by decide) (dk_at dkX6_say 73 rfl) ?_
          refine lv_topi (fun x30 ex30 => ?_)
          have hf := nm_at ex30 hf
          refine lv_iconst (v := 1) C.1 C.2.1 (dk_at dkX6_say 74 rfl) (by decide) ?_
          refine lv_iadd C.1 C.2.1 (dk_at dkX6_say 75 rfl) ?_
          refine lv_topi (fun x31 ex31 => ?_)
          have hf := nm_at ex31 hf
          refine r_iast (k := 43) (f := st_29) C hK w 1 rfl (in_c (by decide)) (by decide) (dk_at dkX6_say 76 rfl) (fun H locs w => ?_)
          obtain ⟨st_32, est_32⟩ : ∃ z : AI, z = upd st_29 43 x31 := ⟨_, rfl⟩
          have hf := nm_at est_32 hf
          have w : Wd g A Z.heap (wM g a_m st_32 now isKept hearers draft dHearers dWalls toldWinds tape taped pos frm sort value fault wrongAt landed landedIn stepped isThere isAt isNext landSum heardSum allWays ways drawn lanes sizes cells torn before) H locs := by rw [est_32]; exact w
          refine lv_aload_n C.1 C.2.1 (dk_at dkX6_say 77 rfl) rfl (lv_at hl 1 rfl) ?_
          refine r_get (v := .ref (a_m 1)) C hK w.1 (fun w h => List.mem_cons_of_mem _ (inlX6 w h)) 0 rfl rfl 0 (by decide) (List.mem_cons_of_mem _ (inr4 _ (List.mem_of_getElem? (i := 4) rfl))) rfl (dk_at dkX6_say 78 rfl) ?_
          refine lv_bipush (v := 43) C.1 C.2.1 (dk_at dkX6_say 79 rfl) (by decide) ?_
          refine r_iald (k := 43) (f := st_32) C hK w.1 1 rfl (in_c (by decide)) (by decide) (dk_at dkX6_say 80 rfl) ?_
          refine lv_topi (fun x33 ex33 => ?_)
          have hf := nm_at ex33 hf
          refine lv_iconst (v := 1) C.1 C.2.1 (dk_at dkX6_say 81 rfl) (by decide) ?_
          refine lv_isub C.1 C.2.1 (dk_at dkX6_say 82 rfl) ?_
          refine lv_topi (fun x34 ex34 => ?_)
          have hf := nm_at ex34 hf
          cases hf
          exact fin _ _ _ _ _ (dk_at dkX6_say 83 rfl) rfl w
        · have hf := (if_pos c13).symm.trans hf
          refine lv_bipush (v := (-3)) C.1 C.2.1 (dk_at dkX6_say 23 rfl) (by decide) ?_
          cases hf
          exact fin _ _ _ _ _ (dk_at dkX6_say 24 rfl) rfl w
      · have hf := (if_pos c11).symm.trans hf
        refine lv_iconst (v := (-1)) C.1 C.2.1 (dk_at dkX6_say 15 rfl) (by decide) ?_
        cases hf
        exact fin _ _ _ _ _ (dk_at dkX6_say 16 rfl) rfl w
-- X6.lands
abbrev tbX6_lands : List (Nat × Instr × Nat) := [(0, .aload_n 0, 1), (1, .iload_n 1, 1), (2, .invokevirtual 214, 3), (5, .ifCond .eq 15, 3), (8, .iload_n 2, 1), (9, .i2l, 1), (10, .lconst 0, 1), (11, .ldc2_w 235, 3), (14, .invokestatic 83, 3), (17, .ifCond .ne 5, 3), (20, .iconst (-1), 1), (21, .ireturn, 1), (22, .aload_n 0, 1), (23, .invokevirtual 237, 3), (26, .iload_n 2, 1), (27, .ifCond .ne 12, 3), (30, .aload_n 0, 1), (31, .getfield 26, 3), (34, .iload_n 1, 1), (35, .iaload, 1), (36, .goto 23, 3), (39, .iload_n 2, 1), (40, .iconst 1, 1), (41, .if_icmp .ne 12, 3), (44, .aload_n 0, 1), (45, .getfield 29, 3), (48, .iload_n 1, 1), (49, .iaload, 1), (50, .goto 9, 3), (53, .aload_n 0, 1), (54, .getfield 32, 3), (57, .iload_n 1, 1), (58, .iaload, 1), (59, .ireturn, 1)]
theorem dkX6_lands : dk cX6_lands tbX6_lands := dk_of (by decide +kernel)
abbrev cdX6_lands : Cond := Cond.code yX6_lands cX6_lands 3 (some .int)
abbrev rmX6_lands : Room := { frames := 5, cells := 0, slots := 0, locals := 117 }
theorem mwX6_lands : Cond.instanceMethod yX6_lands ∈ wsL_law ∧ Cond.selects RX6 yX6_lands yX6_lands ∈ wsL_law ∧ Cond.initialized RX6 ∈ wsL_law ∧ cdX6_lands ∈ wsL_law := ⟨inr25 _ (List.mem_of_getElem? (i := 1) rfl), inr25 _ (List.mem_of_getElem? (i := 2) rfl), inr1 _ (List.mem_of_getElem? (i := 5) rfl), inr25 _ (List.mem_of_getElem? (i := 3) rfl)⟩
theorem hdX6_lands : yX6_lands.cls = RX6 ∧ yX6_lands.cls ≠ "java/lang/invoke/MethodHandle" ∧ yX6_lands.cls ≠ "java/lang/invoke/VarHandle" ∧ (parseMethodDescriptor yX6_lands.desc).map (fun d => d.parameters.length) = some 2 := by decide +kernel
set_option maxHeartbeats 4000000 in
set_option maxRecDepth 100000 in
theorem kX6_lands (l : Launch) (g : Gx) (sz : Nat) (a_m : Nat → Nat) (st : AI) (now : AI) (isKept : AI) (hearers : Int32) (draft : AI) (dHearers : Int32) (dWalls : Int32) (toldWinds : Int32) (tape : AI) (taped : Int32) (pos : Int32) (frm : Int32) (sort : Int32) (value : Int32) (fault : Int32) (wrongAt : Int32) (landed : AI) (landedIn : AI) (stepped : AI) (isThere : AI) (isAt : AI) (isNext : AI) (landSum : Int64) (heardSum : Int64) (allWays : Int64) (ways : AI) (drawn : AI) (lanes : AI) (sizes : AI) (cells : AI) (torn : Int32) (before : AI) (p1 : Int32) (p2 : Int32) (res : Int32) (now_o : AI) (landed_o : AI) (landedIn_o : AI) (stepped_o : AI) (hf : fX6_lands p1 p2 st now landed landedIn stepped = some (res, now_o, landed_o, landedIn_o, stepped_o)) : Met l yX6_lands (cdX6_lands :: wsL_law) rmX6_lands (va_Pc [.ref (a_m 0), .int p1, .int p2] (RWp g sz (wM g a_m st now isKept hearers draft dHearers dWalls toldWinds tape taped pos frm sort value fault wrongAt landed landedIn stepped isThere isAt isNext landSum heardSum allWays ways drawn lanes sizes cells torn before))) (va_Qi (fun x (_ : Unit) => x = res) (fun _ => RWq g (va_A (wM g a_m st now isKept hearers draft dHearers dWalls toldWinds tape taped pos frm sort value fault wrongAt landed landedIn stepped isThere isAt isNext landSum heardSum allWays ways drawn lanes sizes cells torn before) sz) (wM g a_m st now_o isKept hearers draft dHearers dWalls toldWinds tape taped pos frm sort value fault wrongAt landed_o landedIn_o stepped_o isThere isAt isNext landSum heardSum allWays ways drawn lanes sizes cells torn before)) (va_A (wM g a_m st now isKept hearers draft dHearers dWalls toldWinds tape taped pos frm sort value fault wrongAt landed landedIn stepped isThere isAt isNext landSum heardSum allWays ways drawn lanes sizes cells torn before) sz)) 0 0 (va_A (wM g a_m st now isKept hearers draft dHearers dWalls toldWinds tape taped pos frm sort value fault wrongAt landed landedIn stepped isThere isAt isNext landSum heardSum allWays ways drawn lanes sizes cells torn before) sz) := by
  refine Met_rwi (cc := cX6_lands) (maxL := 3) (by decide) rfl (Nat.le_of_ble_eq_true rfl) ?_
  intro P E Z Mi AR BE ME CO A Q C hK hA fin w ls hl
  have hl : lv_has ls 3 [(0, .ref (a_m 0)), (1, .int p1), (2, .int p2)] := hl
  unfold fX6_lands at hf
  refine lv_aload_n C.1 C.2.1 (dk_at dkX6_lands 0 rfl) rfl (lv_at hl 0 rfl) ?_
  refine lv_iload_n C.1 C.2.1 (dk_at dkX6_lands 1 rfl) rfl (lv_at hl 1 rfl) ?_
  obtain ⟨r1, hq2, hf⟩ := bd1_at hf
  refine r_roV (As := [.int p1]) (rest := []) C (kX6_isSaying l g a_m st now isKept hearers draft dHearers dWalls toldWinds tape taped pos frm sort value fault wrongAt landed landedIn stepped isThere isAt isNext landSum heardSum allWays ways drawn lanes sizes cells torn before p1 r1 hq2) (cwV0 C (inr18 _ (List.mem_of_getElem? (i := 10) rfl)) mwX6_isSaying hdX6_isSaying ⟨Nat.le_of_ble_eq_true rfl, Nat.le_of_ble_eq_true rfl⟩) hK w.1 rfl rfl rfl hl.1 rfl (Nat.le_of_ble_eq_true rfl) ⟨Nat.zero_le _, Nat.zero_le _⟩ (dk_at dkX6_lands 2 rfl) ?_
  refine lv_if_eq (tgt := 20) C.1 C.2.1 (dk_at dkX6_lands 3 rfl) (by decide) (fun c3 => ?_) (fun c3 => ?_)
  · have hf := (if_pos c3).symm.trans hf
    refine lv_iconst (v := (-1)) C.1 C.2.1 (dk_at dkX6_lands 10 rfl) (by decide) ?_
    cases hf
    exact fin _ _ _ _ _ (dk_at dkX6_lands 11 rfl) rfl w
  · have hf := (if_neg c3).symm.trans hf
    refine lv_iload_n C.1 C.2.1 (dk_at dkX6_lands 4 rfl) rfl (lv_at hl 2 rfl) ?_
    refine lv_i2l C.1 C.2.1 (dk_at dkX6_lands 5 rfl) rfl ?_
    refine lv_topl (fun x4 ex4 => ?_)
    have hf := nm_at ex4 hf
    refine lv_lconst (v := 0) C.1 C.2.1 (dk_at dkX6_lands 6 rfl) (by decide) ?_
    refine lv_ldc2 (v := 2) C.1 C.2.1 C.2.2.2.1 (C.2.2.2.2 _ (List.mem_cons_of_mem _ (inr25 _ (List.mem_of_getElem? (i := 4) rfl)))) (dk_at dkX6_lands 7 rfl) ?_
    obtain ⟨r5, hq6, hf⟩ := bd1_at hf
    refine r_st (As := [.long x4, .long 0, .long 2]) (rest := []) C (kX6_in l x4 0 2 r5 hq6) (cwS0 C (inr5 _ (List.mem_of_getElem? (i := 21) rfl)) mwX6_in hdX6_in ⟨Nat.le_of_ble_eq_true rfl, Nat.le_of_ble_eq_true rfl⟩) rfl hl.1 rfl (Nat.le_of_ble_eq_true rfl) ⟨Nat.zero_le _, Nat.zero_le _⟩ (dk_at dkX6_lands 8 rfl) ?_
    refine lv_if_ne (tgt := 22) C.1 C.2.1 (dk_at dkX6_lands 9 rfl) (by decide) (fun c7 => ?_) (fun c7 => ?_)
    · have hf := (if_neg c7).symm.trans hf
      refine lv_aload_n C.1 C.2.1 (dk_at dkX6_lands 12 rfl) rfl (lv_at hl 0 rfl) ?_
      obtain ⟨now_8, landed_9, landedIn_10, stepped_11, hq12, hf⟩ := bd4_at hf
      refine r_rwv (As := []) (rest := []) (wr := []) (ws' := wM g a_m st now_8 isKept hearers draft dHearers dWalls toldWinds tape taped pos frm sort value fault wrongAt landed_9 landedIn_10 stepped_11 isThere isAt isNext landSum heardSum allWays ways drawn lanes sizes cells torn before) C (kX6_goesAsItIs l g _ a_m st now isKept hearers draft dHearers dWalls toldWinds tape taped pos frm sort value fault wrongAt landed landedIn stepped isThere isAt isNext landSum heardSum allWays ways drawn lanes sizes cells torn before now_8 landed_9 landedIn_10 stepped_11 hq12) (cwV0 C (inr25 _ (List.mem_of_getElem? (i := 5) rfl)) mwX6_goesAsItIs hdX6_goesAsItIs ⟨Nat.le_of_ble_eq_true rfl, Nat.le_of_ble_eq_true rfl⟩) hK w hA [0, 1, 2, 3, 4, 5, 6, 7, 8, 9, 10, 11, 12, 13, 14, 15, 16, 17] [] [0, 1, 2, 3, 4, 5, 6, 7, 8, 9, 10, 11, 12, 13, 14, 15, 16, 17] (by decide) rfl rfl (by decide) (by decide) rfl (by decide) rfl rfl rfl hl.1 rfl (Nat.le_of_ble_eq_true rfl) ⟨Nat.zero_le _, Nat.zero_le _⟩ (dk_at dkX6_lands 13 rfl) (fun H locs w => ?_)
      refine lv_iload_n C.1 C.2.1 (dk_at dkX6_lands 14 rfl) rfl (lv_at hl 2 rfl) ?_
      refine lv_if_ne (tgt := 39) C.1 C.2.1 (dk_at dkX6_lands 15 rfl) (by decide) (fun c13 => ?_) (fun c13 => ?_)
      · have hf := (if_neg c13).symm.trans hf
        refine lv_iload_n C.1 C.2.1 (dk_at dkX6_lands 21 rfl) rfl (lv_at hl 2 rfl) ?_
        refine lv_iconst (v := 1) C.1 C.2.1 (dk_at dkX6_lands 22 rfl) (by decide) ?_
        refine lv_icmp_ne (tgt := 53) C.1 C.2.1 (dk_at dkX6_lands 23 rfl) (by decide) (fun c14 => ?_) (fun c14 => ?_)
        · have hf := (if_neg c14).symm.trans hf
          refine lv_aload_n C.1 C.2.1 (dk_at dkX6_lands 29 rfl) rfl (lv_at hl 0 rfl) ?_
          refine r_get (v := .ref (a_m 8)) C hK w.1 (fun w h => List.mem_cons_of_mem _ (inlX6 w h)) 0 rfl rfl 18 (by decide) (List.mem_cons_of_mem _ (inr4 _ (List.mem_of_getElem? (i := 11) rfl))) rfl (dk_at dkX6_lands 30 rfl) ?_
          refine lv_iload_n C.1 C.2.1 (dk_at dkX6_lands 31 rfl) rfl (lv_at hl 1 rfl) ?_
          obtain ⟨h15, hf⟩ := gd_at hf
          refine r_iald (k := p1.toNatClampNeg) (f := stepped_11) C hK w.1 8 rfl h15 rfl (dk_at dkX6_lands 32 rfl) ?_
          refine lv_topi (fun x16 ex16 => ?_)
          have hf := nm_at ex16 hf
          cases hf
          exact fin _ _ _ _ _ (dk_at dkX6_lands 33 rfl) rfl w
        · have hf := (if_pos c14).symm.trans hf
          refine lv_aload_n C.1 C.2.1 (dk_at dkX6_lands 24 rfl) rfl (lv_at hl 0 rfl) ?_
          refine r_get (v := .ref (a_m 7)) C hK w.1 (fun w h => List.mem_cons_of_mem _ (inlX6 w h)) 0 rfl rfl 17 (by decide) (List.mem_cons_of_mem _ (inr4 _ (List.mem_of_getElem? (i := 10) rfl))) rfl (dk_at dkX6_lands 25 rfl) ?_
          refine lv_iload_n C.1 C.2.1 (dk_at dkX6_lands 26 rfl) rfl (lv_at hl 1 rfl) ?_
          obtain ⟨h17, hf⟩ := gd_at hf
          refine r_iald (k := p1.toNatClampNeg) (f := landedIn_10) C hK w.1 7 rfl h17 rfl (dk_at dkX6_lands 27 rfl) ?_
          refine lv_topi (fun x18 ex18 => ?_)
          have hf := nm_at ex18 hf
          refine lv_goto (tgt := 59) C.1 C.2.1 (dk_at dkX6_lands 28 rfl) (by decide) ?_
          cases hf
          exact fin _ _ _ _ _ (dk_at dkX6_lands 33 rfl) rfl w
      · have hf := (if_pos c13).symm.trans hf
        refine lv_aload_n C.1 C.2.1 (dk_at dkX6_lands 16 rfl) rfl (lv_at hl 0 rfl) ?_
        refine r_get (v := .ref (a_m 6)) C hK w.1 (fun w h => List.mem_cons_of_mem _ (inlX6 w h)) 0 rfl rfl 16 (by decide) (List.mem_cons_of_mem _ (inr4 _ (List.mem_of_getElem? (i := 9) rfl))) rfl (dk_at dkX6_lands 17 rfl) ?_
        refine lv_iload_n C.1 C.2.1 (dk_at dkX6_lands 18 rfl) rfl (lv_at hl 1 rfl) ?_
        obtain ⟨h19, hf⟩ := gd_at hf
        refine r_iald (k := p1.toNatClampNeg) (f := landed_9) C hK w.1 6 rfl h19 rfl (dk_at dkX6_lands 19 rfl) ?_
        refine lv_topi (fun x20 ex20 => ?_)
        have hf := nm_at ex20 hf
        refine lv_goto (tgt := 59) C.1 C.2.1 (dk_at dkX6_lands 20 rfl) (by decide) ?_
        cases hf
        exact fin _ _ _ _ _ (dk_at dkX6_lands 33 rfl) rfl w
    · have hf := (if_pos c7).symm.trans hf
      refine lv_iconst (v := (-1)) C.1 C.2.1 (dk_at dkX6_lands 10 rfl) (by decide) ?_
      cases hf
      exact fin _ _ _ _ _ (dk_at dkX6_lands 11 rfl) rfl w
-- X6.hears
abbrev tbX6_hears : List (Nat × Instr × Nat) := [(0, .aload_n 0, 1), (1, .iload_n 1, 1), (2, .invokevirtual 219, 3), (5, .ifCond .ne 5, 3), (8, .iconst (-1), 1), (9, .ireturn, 1), (10, .aload_n 0, 1), (11, .invokevirtual 237, 3), (14, .aload_n 0, 1), (15, .aload_n 0, 1), (16, .getfield 13, 3), (19, .bipush 44, 2), (21, .iload_n 1, 1), (22, .iadd, 1), (23, .iaload, 1), (24, .invokevirtual 240, 3), (27, .ireturn, 1)]
theorem dkX6_hears : dk cX6_hears tbX6_hears := dk_of (by decide +kernel)
abbrev cdX6_hears : Cond := Cond.code yX6_hears cX6_hears 2 (some .int)
abbrev rmX6_hears : Room := { frames := 5, cells := 0, slots := 0, locals := 117 }
theorem mwX6_hears : Cond.instanceMethod yX6_hears ∈ wsL_law ∧ Cond.selects RX6 yX6_hears yX6_hears ∈ wsL_law ∧ Cond.initialized RX6 ∈ wsL_law ∧ cdX6_hears ∈ wsL_law := ⟨inr26 _ (List.mem_of_getElem? (i := 6) rfl), inr26 _ (List.mem_of_getElem? (i := 7) rfl), inr1 _ (List.mem_of_getElem? (i := 5) rfl), inr26 _ (List.mem_of_getElem? (i := 8) rfl)⟩
theorem hdX6_hears : yX6_hears.cls = RX6 ∧ yX6_hears.cls ≠ "java/lang/invoke/MethodHandle" ∧ yX6_hears.cls ≠ "java/lang/invoke/VarHandle" ∧ (parseMethodDescriptor yX6_hears.desc).map (fun d => d.parameters.length) = some 1 := by decide +kernel
set_option maxHeartbeats 4000000 in
set_option maxRecDepth 100000 in
theorem kX6_hears (l : Launch) (g : Gx) (sz : Nat) (a_m : Nat → Nat) (st : AI) (now : AI) (isKept : AI) (hearers : Int32) (draft : AI) (dHearers : Int32) (dWalls : Int32) (toldWinds : Int32) (tape : AI) (taped : Int32) (pos : Int32) (frm : Int32) (sort : Int32) (value : Int32) (fault : Int32) (wrongAt : Int32) (landed : AI) (landedIn : AI) (stepped : AI) (isThere : AI) (isAt : AI) (isNext : AI) (landSum : Int64) (heardSum : Int64) (allWays : Int64) (ways : AI) (drawn : AI) (lanes : AI) (sizes : AI) (cells : AI) (torn : Int32) (before : AI) (p1 : Int32) (res : Int32) (now_o : AI) (landed_o : AI) (landedIn_o : AI) (stepped_o : AI) (hf : fX6_hears p1 st now hearers landed landedIn stepped = some (res, now_o, landed_o, landedIn_o, stepped_o)) : Met l yX6_hears (cdX6_hears :: wsL_law) rmX6_hears (va_Pc [.ref (a_m 0), .int p1] (RWp g sz (wM g a_m st now isKept hearers draft dHearers dWalls toldWinds tape taped pos frm sort value fault wrongAt landed landedIn stepped isThere isAt isNext landSum heardSum allWays ways drawn lanes sizes cells torn before))) (va_Qi (fun x (_ : Unit) => x = res) (fun _ => RWq g (va_A (wM g a_m st now isKept hearers draft dHearers dWalls toldWinds tape taped pos frm sort value fault wrongAt landed landedIn stepped isThere isAt isNext landSum heardSum allWays ways drawn lanes sizes cells torn before) sz) (wM g a_m st now_o isKept hearers draft dHearers dWalls toldWinds tape taped pos frm sort value fault wrongAt landed_o landedIn_o stepped_o isThere isAt isNext landSum heardSum allWays ways drawn lanes sizes cells torn before)) (va_A (wM g a_m st now isKept hearers draft dHearers dWalls toldWinds tape taped pos frm sort value fault wrongAt landed landedIn stepped isThere isAt isNext landSum heardSum allWays ways drawn lanes sizes cells torn before) sz)) 0 0 (va_A (wM g a_m st now isKept hearers draft dHearers dWalls toldWinds tape taped pos frm sort value fault wrongAt landed landedIn stepped isThere isAt isNext landSum heardSum allWays ways drawn lanes sizes cells torn before) sz) := by
  refine Met_rwi (cc := cX6_hears) (maxL := 2) (by decide) rfl (Nat.le_of_ble_eq_true rfl) ?_
  intro P E Z Mi AR BE ME CO A Q C hK hA fin w ls hl
  have hl : lv_has ls 2 [(0, .ref (a_m 0)), (1, .int p1)] := hl
  unfold fX6_hears at hf
  refine lv_aload_n C.1 C.2.1 (dk_at dkX6_hears 0 rfl) rfl (lv_at hl 0 rfl) ?_
  refine lv_iload_n C.1 C.2.1 (dk_at dkX6_hears 1 rfl) rfl (lv_at hl 1 rfl) ?_
  obtain ⟨r1, hq2, hf⟩ := bd1_at hf
  refine r_roV (As := [.int p1]) (rest := []) C (kX6_isHearer l g a_m st now isKept hearers draft dHearers dWalls toldWinds tape taped pos frm sort value fault wrongAt landed landedIn stepped isThere isAt isNext landSum heardSum allWays ways drawn lanes sizes cells torn before p1 r1 hq2) (cwV0 C (inr19 _ (List.mem_of_getElem? (i := 11) rfl)) mwX6_isHearer hdX6_isHearer ⟨Nat.le_of_ble_eq_true rfl, Nat.le_of_ble_eq_true rfl⟩) hK w.1 rfl rfl rfl hl.1 rfl (Nat.le_of_ble_eq_true rfl) ⟨Nat.zero_le _, Nat.zero_le _⟩ (dk_at dkX6_hears 2 rfl) ?_
  refine lv_if_ne (tgt := 10) C.1 C.2.1 (dk_at dkX6_hears 3 rfl) (by decide) (fun c3 => ?_) (fun c3 => ?_)
  · have hf := (if_neg c3).symm.trans hf
    refine lv_aload_n C.1 C.2.1 (dk_at dkX6_hears 6 rfl) rfl (lv_at hl 0 rfl) ?_
    obtain ⟨now_4, landed_5, landedIn_6, stepped_7, hq8, hf⟩ := bd4_at hf
    refine r_rwv (As := []) (rest := []) (wr := []) (ws' := wM g a_m st now_4 isKept hearers draft dHearers dWalls toldWinds tape taped pos frm sort value fault wrongAt landed_5 landedIn_6 stepped_7 isThere isAt isNext landSum heardSum allWays ways drawn lanes sizes cells torn before) C (kX6_goesAsItIs l g _ a_m st now isKept hearers draft dHearers dWalls toldWinds tape taped pos frm sort value fault wrongAt landed landedIn stepped isThere isAt isNext landSum heardSum allWays ways drawn lanes sizes cells torn before now_4 landed_5 landedIn_6 stepped_7 hq8) (cwV0 C (inr25 _ (List.mem_of_getElem? (i := 5) rfl)) mwX6_goesAsItIs hdX6_goesAsItIs ⟨Nat.le_of_ble_eq_true rfl, Nat.le_of_ble_eq_true rfl⟩) hK w hA [0, 1, 2, 3, 4, 5, 6, 7, 8, 9, 10, 11, 12, 13, 14, 15, 16, 17] [] [0, 1, 2, 3, 4, 5, 6, 7, 8, 9, 10, 11, 12, 13, 14, 15, 16, 17] (by decide) rfl rfl (by decide) (by decide) rfl (by decide) rfl rfl rfl hl.1 rfl (Nat.le_of_ble_eq_true rfl) ⟨Nat.zero_le _, Nat.zero_le _⟩ (dk_at dkX6_hears 7 rfl) (fun H locs w => ?_)
    refine lv_aload_n C.1 C.2.1 (dk_at dkX6_hears 8 rfl) rfl (lv_at hl 0 rfl) ?_
    refine lv_aload_n C.1 C.2.1 (dk_at dkX6_hears 9 rfl) rfl (lv_at hl 0 rfl) ?_
    refine r_get (v := .ref (a_m 2)) C hK w.1 (fun w h => List.mem_cons_of_mem _ (inlX6 w h)) 0 rfl rfl 1 (by decide) (List.mem_cons_of_mem _ (inr4 _ (List.mem_of_getElem? (i := 5) rfl))) rfl (dk_at dkX6_hears 10 rfl) ?_
    refine lv_bipush (v := 44) C.1 C.2.1 (dk_at dkX6_hears 11 rfl) (by decide) ?_
    refine lv_iload_n C.1 C.2.1 (dk_at dkX6_hears 12 rfl) rfl (lv_at hl 1 rfl) ?_
    refine lv_iadd C.1 C.2.1 (dk_at dkX6_hears 13 rfl) ?_
    refine lv_topi (fun x9 ex9 => ?_)
    have hf := nm_at ex9 hf
    obtain ⟨h10, hf⟩ := gd_at hf
    refine r_iald (k := x9.toNatClampNeg) (f := now_4) C hK w.1 2 rfl h10 rfl (dk_at dkX6_hears 14 rfl) ?_
    refine lv_topi (fun x11 ex11 => ?_)
    have hf := nm_at ex11 hf
    obtain ⟨r12, hq13, hf⟩ := bd1_at hf
    refine r_roV (As := [.int x11]) (rest := []) C (kX6_landIn l g a_m st now_4 isKept hearers draft dHearers dWalls toldWinds tape taped pos frm sort value fault wrongAt landed_5 landedIn_6 stepped_7 isThere isAt isNext landSum heardSum allWays ways drawn lanes sizes cells torn before x11 r12 hq13) (cwV0 C (inr26 _ (List.mem_of_getElem? (i := 9) rfl)) mwX6_landIn hdX6_landIn ⟨Nat.le_of_ble_eq_true rfl, Nat.le_of_ble_eq_true rfl⟩) hK w.1 rfl rfl rfl hl.1 rfl (Nat.le_of_ble_eq_true rfl) ⟨Nat.zero_le _, Nat.zero_le _⟩ (dk_at dkX6_hears 15 rfl) ?_
    cases hf
    exact fin _ _ _ _ _ (dk_at dkX6_hears 16 rfl) rfl w
  · have hf := (if_pos c3).symm.trans hf
    refine lv_iconst (v := (-1)) C.1 C.2.1 (dk_at dkX6_hears 4 rfl) (by decide) ?_
    cases hf
    exact fin _ _ _ _ _ (dk_at dkX6_hears 5 rfl) rfl w
-- X6.field
abbrev tbX6_field : List (Nat × Instr × Nat) := [(0, .iload_n 1, 1), (1, .invokestatic 140, 3), (4, .ifCond .eq 10, 3), (7, .iload_n 2, 1), (8, .invokestatic 243, 3), (11, .ifCond .ne 5, 3), (14, .iconst (-1), 1), (15, .ireturn, 1), (16, .aload_n 0, 1), (17, .invokevirtual 237, 3), (20, .iload_n 2, 1), (21, .ifCond .ne 11, 3), (24, .aload_n 0, 1), (25, .iload_n 1, 1), (26, .invokevirtual 240, 3), (29, .goto 11, 3), (32, .aload_n 0, 1), (33, .iload_n 1, 1), (34, .invokevirtual 192, 3), (37, .invokestatic 207, 3), (40, .ireturn, 1)]
theorem dkX6_field : dk cX6_field tbX6_field := dk_of (by decide +kernel)
abbrev cdX6_field : Cond := Cond.code yX6_field cX6_field 3 (some .int)
abbrev rmX6_field : Room := { frames := 5, cells := 0, slots := 0, locals := 117 }
theorem mwX6_field : Cond.instanceMethod yX6_field ∈ wsL_law ∧ Cond.selects RX6 yX6_field yX6_field ∈ wsL_law ∧ Cond.initialized RX6 ∈ wsL_law ∧ cdX6_field ∈ wsL_law := ⟨inr26 _ (List.mem_of_getElem? (i := 19) rfl), inr26 _ (List.mem_of_getElem? (i := 20) rfl), inr1 _ (List.mem_of_getElem? (i := 5) rfl), inr26 _ (List.mem_of_getElem? (i := 21) rfl)⟩
theorem hdX6_field : yX6_field.cls = RX6 ∧ yX6_field.cls ≠ "java/lang/invoke/MethodHandle" ∧ yX6_field.cls ≠ "java/lang/invoke/VarHandle" ∧ (parseMethodDescriptor yX6_field.desc).map (fun d => d.parameters.length) = some 2 := by decide +kernel
set_option maxHeartbeats 4000000 in
set_option maxRecDepth 100000 in
theorem kX6_field (l : Launch) (g : Gx) (sz : Nat) (a_m : Nat → Nat) (st : AI) (now : AI) (isKept : AI) (hearers : Int32) (draft : AI) (dHearers : Int32) (dWalls : Int32) (toldWinds : Int32) (tape : AI) (taped : Int32) (pos : Int32) (frm : Int32) (sort : Int32) (value : Int32) (fault : Int32) (wrongAt : Int32) (landed : AI) (landedIn : AI) (stepped : AI) (isThere : AI) (isAt : AI) (isNext : AI) (landSum : Int64) (heardSum : Int64) (allWays : Int64) (ways : AI) (drawn : AI) (lanes : AI) (sizes : AI) (cells : AI) (torn : Int32) (before : AI) (p1 : Int32) (p2 : Int32) (res : Int32) (now_o : AI) (landed_o : AI) (landedIn_o : AI) (stepped_o : AI) (hf : fX6_field p1 p2 st now landed landedIn stepped = some (res, now_o, landed_o, landedIn_o, stepped_o)) : Met l yX6_field (cdX6_field :: wsL_law) rmX6_field (va_Pc [.ref (a_m 0), .int p1, .int p2] (RWp g sz (wM g a_m st now isKept hearers draft dHearers dWalls toldWinds tape taped pos frm sort value fault wrongAt landed landedIn stepped isThere isAt isNext landSum heardSum allWays ways drawn lanes sizes cells torn before))) (va_Qi (fun x (_ : Unit) => x = res) (fun _ => RWq g (va_A (wM g a_m st now isKept hearers draft dHearers dWalls toldWinds tape taped pos frm sort value fault wrongAt landed landedIn stepped isThere isAt isNext landSum heardSum allWays ways drawn lanes sizes cells torn before) sz) (wM g a_m st now_o isKept hearers draft dHearers dWalls toldWinds tape taped pos frm sort value fault wrongAt landed_o landedIn_o stepped_o isThere isAt isNext landSum heardSum allWays ways drawn lanes sizes cells torn before)) (va_A (wM g a_m st now isKept hearers draft dHearers dWalls toldWinds tape taped pos frm sort value fault wrongAt landed landedIn stepped isThere isAt isNext landSum heardSum allWays ways drawn lanes sizes cells torn before) sz)) 0 0 (va_A (wM g a_m st now isKept hearers draft dHearers dWalls toldWinds tape taped pos frm sort value fault wrongAt landed landedIn stepped isThere isAt isNext landSum heardSum allWays ways drawn lanes sizes cells torn before) sz) := by
  refine Met_rwi (cc := cX6_field) (maxL := 3) (by decide) rfl (Nat.le_of_ble_eq_true rfl) ?_
  intro P E Z Mi AR BE ME CO A Q C hK hA fin w ls hl
  have hl : lv_has ls 3 [(0, .ref (a_m 0)), (1, .int p1), (2, .int p2)] := hl
  unfold fX6_field at hf
  refine lv_iload_n C.1 C.2.1 (dk_at dkX6_field 0 rfl) rfl (lv_at hl 1 rfl) ?_
  obtain ⟨r1, hq2, hf⟩ := bd1_at hf
  refine r_st (As := [.int p1]) (rest := []) C (kX6_isCell l p1 r1 hq2) (cwS0 C (inr15 _ (List.mem_of_getElem? (i := 8) rfl)) mwX6_isCell hdX6_isCell ⟨Nat.le_of_ble_eq_true rfl, Nat.le_of_ble_eq_true rfl⟩) rfl hl.1 rfl (Nat.le_of_ble_eq_true rfl) ⟨Nat.zero_le _, Nat.zero_le _⟩ (dk_at dkX6_field 1 rfl) ?_
  refine lv_if_eq (tgt := 14) C.1 C.2.1 (dk_at dkX6_field 2 rfl) (by decide) (fun c3 => ?_) (fun c3 => ?_)
  · have hf := (if_pos c3).symm.trans hf
    refine lv_iconst (v := (-1)) C.1 C.2.1 (dk_at dkX6_field 6 rfl) (by decide) ?_
    cases hf
    exact fin _ _ _ _ _ (dk_at dkX6_field 7 rfl) rfl w
  · have hf := (if_neg c3).symm.trans hf
    refine lv_iload_n C.1 C.2.1 (dk_at dkX6_field 3 rfl) rfl (lv_at hl 2 rfl) ?_
    obtain ⟨r4, hq5, hf⟩ := bd1_at hf
    refine r_st (As := [.int p2]) (rest := []) C (kX6_isPart l p2 r4 hq5) (cwS0 C (inr26 _ (List.mem_of_getElem? (i := 22) rfl)) mwX6_isPart hdX6_isPart ⟨Nat.le_of_ble_eq_true rfl, Nat.le_of_ble_eq_true rfl⟩) rfl hl.1 rfl (Nat.le_of_ble_eq_true rfl) ⟨Nat.zero_le _, Nat.zero_le _⟩ (dk_at dkX6_field 4 rfl) ?_
    refine lv_if_ne (tgt := 16) C.1 C.2.1 (dk_at dkX6_field 5 rfl) (by decide) (fun c6 => ?_) (fun c6 => ?_)
    · have hf := (if_neg c6).symm.trans hf
      refine lv_aload_n C.1 C.2.1 (dk_at dkX6_field 8 rfl) rfl (lv_at hl 0 rfl) ?_
      obtain ⟨now_7, landed_8, landedIn_9, stepped_10, hq11, hf⟩ := bd4_at hf
      refine r_rwv (As := []) (rest := []) (wr := []) (ws' := wM g a_m st now_7 isKept hearers draft dHearers dWalls toldWinds tape taped pos frm sort value fault wrongAt landed_8 landedIn_9 stepped_10 isThere isAt isNext landSum heardSum allWays ways drawn lanes sizes cells torn before) C (kX6_goesAsItIs l g _ a_m st now isKept hearers draft dHearers dWalls toldWinds tape taped pos frm sort value fault wrongAt landed landedIn stepped isThere isAt isNext landSum heardSum allWays ways drawn lanes sizes cells torn before now_7 landed_8 landedIn_9 stepped_10 hq11) (cwV0 C (inr25 _ (List.mem_of_getElem? (i := 5) rfl)) mwX6_goesAsItIs hdX6_goesAsItIs ⟨Nat.le_of_ble_eq_true rfl, Nat.le_of_ble_eq_true rfl⟩) hK w hA [0, 1, 2, 3, 4, 5, 6, 7, 8, 9, 10, 11, 12, 13, 14, 15, 16, 17] [] [0, 1, 2, 3, 4, 5, 6, 7, 8, 9, 10, 11, 12, 13, 14, 15, 16, 17] (by decide) rfl rfl (by decide) (by decide) rfl (by decide) rfl rfl rfl hl.1 rfl (Nat.le_of_ble_eq_true rfl) ⟨Nat.zero_le _, Nat.zero_le _⟩ (dk_at dkX6_field 9 rfl) (fun H locs w => ?_)
      refine lv_iload_n C.1 C.2.1 (dk_at dkX6_field 10 rfl) rfl (lv_at hl 2 rfl) ?_
      refine lv_if_ne (tgt := 32) C.1 C.2.1 (dk_at dkX6_field 11 rfl) (by decide) (fun c12 => ?_) (fun c12 => ?_)
      · have hf := (if_neg c12).symm.trans hf
        refine lv_aload_n C.1 C.2.1 (dk_at dkX6_field 16 rfl) rfl (lv_at hl 0 rfl) ?_
        refine lv_iload_n C.1 C.2.1 (dk_at dkX6_field 17 rfl) rfl (lv_at hl 1 rfl) ?_
        obtain ⟨r13, hq14, hf⟩ := bd1_at hf
        refine r_roV (As := [.int p1]) (rest := []) C (kX6_isWall l g a_m st now_7 isKept hearers draft dHearers dWalls toldWinds tape taped pos frm sort value fault wrongAt landed_8 landedIn_9 stepped_10 isThere isAt isNext landSum heardSum allWays ways drawn lanes sizes cells torn before p1 r13 hq14) (cwV0 C (inr20 _ (List.mem_of_getElem? (i := 2) rfl)) mwX6_isWall hdX6_isWall ⟨Nat.le_of_ble_eq_true rfl, Nat.le_of_ble_eq_true rfl⟩) hK w.1 rfl rfl rfl hl.1 rfl (Nat.le_of_ble_eq_true rfl) ⟨Nat.zero_le _, Nat.zero_le _⟩ (dk_at dkX6_field 18 rfl) ?_
        obtain ⟨r15, hq16, hf⟩ := bd1_at hf
        refine r_st (As := [.int r13]) (rest := []) C (kX6_flag l r13 r15 hq16) (cwS0 C (inr17 _ (List.mem_of_getElem? (i := 7) rfl)) mwX6_flag hdX6_flag ⟨Nat.le_of_ble_eq_true rfl, Nat.le_of_ble_eq_true rfl⟩) rfl hl.1 rfl (Nat.le_of_ble_eq_true rfl) ⟨Nat.zero_le _, Nat.zero_le _⟩ (dk_at dkX6_field 19 rfl) ?_
        cases hf
        exact fin _ _ _ _ _ (dk_at dkX6_field 20 rfl) rfl w
      · have hf := (if_pos c12).symm.trans hf
        refine lv_aload_n C.1 C.2.1 (dk_at dkX6_field 12 rfl) rfl (lv_at hl 0 rfl) ?_
        refine lv_iload_n C.1 C.2.1 (dk_at dkX6_field 13 rfl) rfl (lv_at hl 1 rfl) ?_
        obtain ⟨r17, hq18, hf⟩ := bd1_at hf
        refine r_roV (As := [.int p1]) (rest := []) C (kX6_landIn l g a_m st now_7 isKept hearers draft dHearers dWalls toldWinds tape taped pos frm sort value fault wrongAt landed_8 landedIn_9 stepped_10 isThere isAt isNext landSum heardSum allWays ways drawn lanes sizes cells torn before p1 r17 hq18) (cwV0 C (inr26 _ (List.mem_of_getElem? (i := 9) rfl)) mwX6_landIn hdX6_landIn ⟨Nat.le_of_ble_eq_true rfl, Nat.le_of_ble_eq_true rfl⟩) hK w.1 rfl rfl rfl hl.1 rfl (Nat.le_of_ble_eq_true rfl) ⟨Nat.zero_le _, Nat.zero_le _⟩ (dk_at dkX6_field 14 rfl) ?_
        refine lv_goto (tgt := 40) C.1 C.2.1 (dk_at dkX6_field 15 rfl) (by decide) ?_
        cases hf
        exact fin _ _ _ _ _ (dk_at dkX6_field 20 rfl) rfl w
    · have hf := (if_pos c6).symm.trans hf
      refine lv_iconst (v := (-1)) C.1 C.2.1 (dk_at dkX6_field 6 rfl) (by decide) ?_
      cases hf
      exact fin _ _ _ _ _ (dk_at dkX6_field 7 rfl) rfl w
-- X6.sum
abbrev tbX6_sum : List (Nat × Instr × Nat) := [(0, .iload_n 1, 1), (1, .i2l, 1), (2, .lconst 0, 1), (3, .ldc2_w 224, 3), (6, .invokestatic 83, 3), (9, .ifCond .ne 5, 3), (12, .iconst (-1), 1), (13, .ireturn, 1), (14, .aload_n 0, 1), (15, .invokevirtual 237, 3), (18, .iconst 0, 1), (19, .istore_n 2, 1), (20, .iconst 0, 1), (21, .istore_n 3, 1), (22, .iconst 0, 1), (23, .istore 4, 2), (25, .iload 4, 2), (27, .aload_n 0, 1), (28, .getfield 13, 3), (31, .bipush 43, 2), (33, .iaload, 1), (34, .if_icmp .ge 31, 3), (37, .iload_n 2, 1), (38, .aload_n 0, 1), (39, .getfield 32, 3), (42, .iload 4, 2), (44, .iaload, 1), (45, .iadd, 1), (46, .istore_n 2, 1), (47, .iload_n 3, 1), (48, .iconst 1, 1), (49, .aload_n 0, 1), (50, .getfield 29, 3), (53, .iload 4, 2), (55, .iaload, 1), (56, .ishl, 1), (57, .ior, 1), (58, .istore_n 3, 1), (59, .iinc 4 1, 3), (62, .goto (-37), 3), (65, .iload_n 1, 1), (66, .ifCond .ne 10, 3), (69, .aload_n 0, 1), (70, .invokevirtual 246, 3), (73, .goto 25, 3), (76, .iload_n 1, 1), (77, .iconst 1, 1), (78, .if_icmp .ne 10, 3), (81, .aload_n 0, 1), (82, .invokevirtual 195, 3), (85, .goto 13, 3), (88, .iload_n 1, 1), (89, .iconst 2, 1), (90, .if_icmp .ne 7, 3), (93, .iload_n 2, 1), (94, .goto 4, 3), (97, .iload_n 3, 1), (98, .ireturn, 1)]
theorem dkX6_sum : dk cX6_sum tbX6_sum := dk_of (by decide +kernel)
abbrev cdX6_sum : Cond := Cond.code yX6_sum cX6_sum 5 (some .int)
abbrev rmX6_sum : Room := { frames := 5, cells := 0, slots := 0, locals := 117 }
theorem mwX6_sum : Cond.instanceMethod yX6_sum ∈ wsL_law ∧ Cond.selects RX6 yX6_sum yX6_sum ∈ wsL_law ∧ Cond.initialized RX6 ∈ wsL_law ∧ cdX6_sum ∈ wsL_law := ⟨inr27 _ (List.mem_of_getElem? (i := 23) rfl), inr28 _ (List.mem_of_getElem? (i := 0) rfl), inr1 _ (List.mem_of_getElem? (i := 5) rfl), inr28 _ (List.mem_of_getElem? (i := 1) rfl)⟩
theorem hdX6_sum : yX6_sum.cls = RX6 ∧ yX6_sum.cls ≠ "java/lang/invoke/MethodHandle" ∧ yX6_sum.cls ≠ "java/lang/invoke/VarHandle" ∧ (parseMethodDescriptor yX6_sum.desc).map (fun d => d.parameters.length) = some 1 := by decide +kernel
set_option maxHeartbeats 4000000 in
set_option maxRecDepth 100000 in
theorem kX6_sum (l : Launch) (g : Gx) (sz : Nat) (a_m : Nat → Nat) (st : AI) (now : AI) (isKept : AI) (hearers : Int32) (draft : AI) (dHearers : Int32) (dWalls : Int32) (toldWinds : Int32) (tape : AI) (taped : Int32) (pos : Int32) (frm : Int32) (sort : Int32) (value : Int32) (fault : Int32) (wrongAt : Int32) (landed : AI) (landedIn : AI) (stepped : AI) (isThere : AI) (isAt : AI) (isNext : AI) (landSum : Int64) (heardSum : Int64) (allWays : Int64) (ways : AI) (drawn : AI) (lanes : AI) (sizes : AI) (cells : AI) (torn : Int32) (before : AI) (p1 : Int32) (res : Int32) (now_o : AI) (landed_o : AI) (landedIn_o : AI) (stepped_o : AI) (hf : fX6_sum p1 st now hearers landed landedIn stepped = some (res, now_o, landed_o, landedIn_o, stepped_o)) : Met l yX6_sum (cdX6_sum :: wsL_law) rmX6_sum (va_Pc [.ref (a_m 0), .int p1] (RWp g sz (wM g a_m st now isKept hearers draft dHearers dWalls toldWinds tape taped pos frm sort value fault wrongAt landed landedIn stepped isThere isAt isNext landSum heardSum allWays ways drawn lanes sizes cells torn before))) (va_Qi (fun x (_ : Unit) => x = res) (fun _ => RWq g (va_A (wM g a_m st now isKept hearers draft dHearers dWalls toldWinds tape taped pos frm sort value fault wrongAt landed landedIn stepped isThere isAt isNext landSum heardSum allWays ways drawn lanes sizes cells torn before) sz) (wM g a_m st now_o isKept hearers draft dHearers dWalls toldWinds tape taped pos frm sort value fault wrongAt landed_o landedIn_o stepped_o isThere isAt isNext landSum heardSum allWays ways drawn lanes sizes cells torn before)) (va_A (wM g a_m st now isKept hearers draft dHearers dWalls toldWinds tape taped pos frm sort value fault wrongAt landed landedIn stepped isThere isAt isNext landSum heardSum allWays ways drawn lanes sizes cells torn before) sz)) 0 0 (va_A (wM g a_m st now isKept hearers draft dHearers dWalls toldWinds tape taped pos frm sort value fault wrongAt landed landedIn stepped isThere isAt isNext landSum heardSum allWays ways drawn lanes sizes cells torn before) sz) := by
  refine Met_rwi (cc := cX6_sum) (maxL := 5) (by decide) rfl (Nat.le_of_ble_eq_true rfl) ?_
  intro P E Z Mi AR BE ME CO A Q C hK hA fin w ls hl
  have hl : lv_has ls 5 [(0, .ref (a_m 0)), (1, .int p1)] := hl
  unfold fX6_sum at hf
  refine lv_iload_n C.1 C.2.1 (dk_at dkX6_sum 0 rfl) rfl (lv_at hl 1 rfl) ?_
  refine lv_i2l C.1 C.2.1 (dk_at dkX6_sum 1 rfl) rfl ?_
  refine lv_topl (fun x1 ex1 => ?_)
  have hf := nm_at ex1 hf
  refine lv_lconst (v := 0) C.1 C.2.1 (dk_at dkX6_sum 2 rfl) (by decide) ?_
  refine lv_ldc2 (v := 3) C.1 C.2.1 C.2.2.2.1 (C.2.2.2.2 _ (List.mem_cons_of_mem _ (inr21 _ (List.mem_of_getElem? (i := 4) rfl)))) (dk_at dkX6_sum 3 rfl) ?_
  obtain ⟨r2, hq3, hf⟩ := bd1_at hf
  refine r_st (As := [.long x1, .long 0, .long 3]) (rest := []) C (kX6_in l x1 0 3 r2 hq3) (cwS0 C (inr5 _ (List.mem_of_getElem? (i := 21) rfl)) mwX6_in hdX6_in ⟨Nat.le_of_ble_eq_true rfl, Nat.le_of_ble_eq_true rfl⟩) rfl hl.1 rfl (Nat.le_of_ble_eq_true rfl) ⟨Nat.zero_le _, Nat.zero_le _⟩ (dk_at dkX6_sum 4 rfl) ?_
  refine lv_if_ne (tgt := 14) C.1 C.2.1 (dk_at dkX6_sum 5 rfl) (by decide) (fun c4 => ?_) (fun c4 => ?_)
  · have hf := (if_neg c4).symm.trans hf
    refine lv_aload_n C.1 C.2.1 (dk_at dkX6_sum 8 rfl) rfl (lv_at hl 0 rfl) ?_
    obtain ⟨now_5, landed_6, landedIn_7, stepped_8, hq9, hf⟩ := bd4_at hf
    refine r_rwv (As := []) (rest := []) (wr := []) (ws' := wM g a_m st now_5 isKept hearers draft dHearers dWalls toldWinds tape taped pos frm sort value fault wrongAt landed_6 landedIn_7 stepped_8 isThere isAt isNext landSum heardSum allWays ways drawn lanes sizes cells torn before) C (kX6_goesAsItIs l g _ a_m st now isKept hearers draft dHearers dWalls toldWinds tape taped pos frm sort value fault wrongAt landed landedIn stepped isThere isAt isNext landSum heardSum allWays ways drawn lanes sizes cells torn before now_5 landed_6 landedIn_7 stepped_8 hq9) (cwV0 C (inr25 _ (List.mem_of_getElem? (i := 5) rfl)) mwX6_goesAsItIs hdX6_goesAsItIs ⟨Nat.le_of_ble_eq_true rfl, Nat.le_of_ble_eq_true rfl⟩) hK w hA [0, 1, 2, 3, 4, 5, 6, 7, 8, 9, 10, 11, 12, 13, 14, 15, 16, 17] [] [0, 1, 2, 3, 4, 5, 6, 7, 8, 9, 10, 11, 12, 13, 14, 15, 16, 17] (by decide) rfl rfl (by decide) (by decide) rfl (by decide) rfl rfl rfl hl.1 rfl (Nat.le_of_ble_eq_true rfl) ⟨Nat.zero_le _, Nat.zero_le _⟩ (dk_at dkX6_sum 9 rfl) (fun H locs w => ?_)
    refine lv_iconst (v := 0) C.1 C.2.1 (dk_at dkX6_sum 10 rfl) (by decide) ?_
    refine lv_istore_n (lv' := [(2, .int 0), (0, .ref (a_m 0)), (1, .int p1)]) C.1 C.2.1 (dk_at dkX6_sum 11 rfl) rfl hl (by decide) rfl (fun ls hl => ?_)
    refine lv_iconst (v := 0) C.1 C.2.1 (dk_at dkX6_sum 12 rfl) (by decide) ?_
    refine lv_istore_n (lv' := [(3, .int 0), (2, .int 0), (0, .ref (a_m 0)), (1, .int p1)]) C.1 C.2.1 (dk_at dkX6_sum 13 rfl) rfl hl (by decide) rfl (fun ls hl => ?_)
    refine lv_iconst (v := 0) C.1 C.2.1 (dk_at dkX6_sum 14 rfl) (by decide) ?_
    refine lv_istore (lv' := [(4, .int 0), (3, .int 0), (2, .int 0), (0, .ref (a_m 0)), (1, .int p1)]) C.1 C.2.1 (dk_at dkX6_sum 15 rfl) hl (by decide) rfl (fun ls hl => ?_)
    have L13 : ∀ (K : Int32 → Int32 → Int32 → Option (Int32 × AI × AI × AI × AI)), (∀ (v10 : Int32) (v11 : Int32) (v12 : Int32) (H : Heap) (locs : List Loc) (ls : Array Slot), Wd g A Z.heap (wM g a_m st now_5 isKept hearers draft dHearers dWalls toldWinds tape taped pos frm sort value fault wrongAt landed_6 landedIn_7 stepped_8 isThere isAt isNext landSum heardSum allWays ways drawn lanes sizes cells torn before) H locs → lv_has ls 5 [(3, .int v11), (2, .int v12), (0, .ref (a_m 0)), (1, .int p1)] → K v10 v11 v12 = some (res, now_o, landed_o, landedIn_o, stepped_o) → W P l E rmX6_sum Z Mi AR BE ME CO H locs 0 0 Q (F0 Mi 65 ls [])) → ∀ (n : Nat), ∀ (v10 : Int32) (v11 : Int32) (v12 : Int32) (H : Heap) (locs : List Loc) (ls : Array Slot), Wd g A Z.heap (wM g a_m st now_5 isKept hearers draft dHearers dWalls toldWinds tape taped pos frm sort value fault wrongAt landed_6 landedIn_7 stepped_8 isThere isAt isNext landSum heardSum allWays ways drawn lanes sizes cells torn before) H locs → lv_has ls 5 [(4, .int v10), (3, .int v11), (2, .int v12), (0, .ref (a_m 0)), (1, .int p1)] → fX6_sum_L25 now_5 landedIn_7 stepped_8 K n v10 v11 v12 = some (res, now_o, landed_o, landedIn_o, stepped_o) → W P l E rmX6_sum Z Mi AR BE ME CO H locs 0 0 Q (F0 Mi 25 ls []) := by
      intro K hKe n
      induction n with
      | zero => intro v10 v11 v12 H locs ls w hl hf; cases hf
      | succ n ih =>
        intro v10 v11 v12 H locs ls w hl hf
        rw [fX6_sum_L25] at hf
        refine lv_iload C.1 C.2.1 (dk_at dkX6_sum 16 rfl) (lv_at hl 0 rfl) ?_
        refine lv_aload_n C.1 C.2.1 (dk_at dkX6_sum 17 rfl) rfl (lv_at hl 3 rfl) ?_
        refine r_get (v := .ref (a_m 2)) C hK w.1 (fun w h => List.mem_cons_of_mem _ (inlX6 w h)) 0 rfl rfl 1 (by decide) (List.mem_cons_of_mem _ (inr4 _ (List.mem_of_getElem? (i := 5) rfl))) rfl (dk_at dkX6_sum 18 rfl) ?_
        refine lv_bipush (v := 43) C.1 C.2.1 (dk_at dkX6_sum 19 rfl) (by decide) ?_
        refine r_iald (k := 43) (f := now_5) C hK w.1 2 rfl (in_c (by decide)) (by decide) (dk_at dkX6_sum 20 rfl) ?_
        refine lv_icmp_ge (tgt := 65) C.1 C.2.1 (dk_at dkX6_sum 21 rfl) (by decide) (fun c14 => ?_) (fun c14 => ?_)
        · have hf := (if_pos c14).symm.trans hf
          exact hKe v10 v11 v12 _ _ _ w (lv_sub hl [1, 2, 3, 4] rfl) hf
        · have hf := (if_neg c14).symm.trans hf
          refine lv_iload_n C.1 C.2.1 (dk_at dkX6_sum 22 rfl) rfl (lv_at hl 2 rfl) ?_
          refine lv_aload_n C.1 C.2.1 (dk_at dkX6_sum 23 rfl) rfl (lv_at hl 3 rfl) ?_
          refine r_get (v := .ref (a_m 8)) C hK w.1 (fun w h => List.mem_cons_of_mem _ (inlX6 w h)) 0 rfl rfl 18 (by decide) (List.mem_cons_of_mem _ (inr4 _ (List.mem_of_getElem? (i := 11) rfl))) rfl (dk_at dkX6_sum 24 rfl) ?_
          refine lv_iload C.1 C.2.1 (dk_at dkX6_sum 25 rfl) (lv_at hl 0 rfl) ?_
          obtain ⟨h15, hf⟩ := gd_at hf
          refine r_iald (k := v10.toNatClampNeg) (f := stepped_8) C hK w.1 8 rfl h15 rfl (dk_at dkX6_sum 26 rfl) ?_
          refine lv_iadd C.1 C.2.1 (dk_at dkX6_sum 27 rfl) ?_
          refine lv_topi (fun x16 ex16 => ?_)
          have hf := nm_at ex16 hf
          refine lv_istore_n (lv' := [(2, .int x16), (4, .int v10), (3, .int v11), (0, .ref (a_m 0)), (1, .int p1)]) C.1 C.2.1 (dk_at dkX6_sum 28 rfl) rfl hl (by decide) rfl (fun ls hl => ?_)
          refine lv_iload_n C.1 C.2.1 (dk_at dkX6_sum 29 rfl) rfl (lv_at hl 2 rfl) ?_
          refine lv_iconst (v := 1) C.1 C.2.1 (dk_at dkX6_sum 30 rfl) (by decide) ?_
          refine lv_aload_n C.1 C.2.1 (dk_at dkX6_sum 31 rfl) rfl (lv_at hl 3 rfl) ?_
          refine r_get (v := .ref (a_m 7)) C hK w.1 (fun w h => List.mem_cons_of_mem _ (inlX6 w h)) 0 rfl rfl 17 (by decide) (List.mem_cons_of_mem _ (inr4 _ (List.mem_of_getElem? (i := 10) rfl))) rfl (dk_at dkX6_sum 32 rfl) ?_
          refine lv_iload C.1 C.2.1 (dk_at dkX6_sum 33 rfl) (lv_at hl 1 rfl) ?_
          obtain ⟨h17, hf⟩ := gd_at hf
          refine r_iald (k := v10.toNatClampNeg) (f := landedIn_7) C hK w.1 7 rfl h17 rfl (dk_at dkX6_sum 34 rfl) ?_
          refine lv_ishl C.1 C.2.1 (dk_at dkX6_sum 35 rfl) ?_
          refine lv_ior C.1 C.2.1 (dk_at dkX6_sum 36 rfl) ?_
          refine lv_topi (fun x18 ex18 => ?_)
          have hf := nm_at ex18 hf
          refine lv_istore_n (lv' := [(3, .int x18), (2, .int x16), (4, .int v10), (0, .ref (a_m 0)), (1, .int p1)]) C.1 C.2.1 (dk_at dkX6_sum 37 rfl) rfl hl (by decide) rfl (fun ls hl => ?_)
          obtain ⟨x19, ex19⟩ : ∃ z : Int32, z = v10 + 1 := ⟨_, rfl⟩
          have hf := nm_at ex19 hf
          refine lv_iinc (v := x19) (lv' := [(4, .int x19), (3, .int x18), (2, .int x16), (0, .ref (a_m 0)), (1, .int p1)]) C.1 C.2.1 (dk_at dkX6_sum 38 rfl) hl (k := 2) rfl (by rw [ex19]; rfl) (by decide) rfl (fun ls hl => ?_)
          refine lv_goto (tgt := 25) C.1 C.2.1 (dk_at dkX6_sum 39 rfl) (by decide) ?_
          exact ih x19 x18 x16 _ _ _ w (lv_sub hl [0, 1, 2, 3, 4] rfl) hf
    refine L13 _ ?_ 4096 0 0 0 _ _ _ w (lv_sub hl [0, 1, 2, 3, 4] rfl) hf
    clear hf
    intro v10 v11 v12 H locs ls w hl hf
    refine lv_iload_n C.1 C.2.1 (dk_at dkX6_sum 40 rfl) rfl (lv_at hl 3 rfl) ?_
    refine lv_if_ne (tgt := 76) C.1 C.2.1 (dk_at dkX6_sum 41 rfl) (by decide) (fun c20 => ?_) (fun c20 => ?_)
    · have hf := (if_neg c20).symm.trans hf
      refine lv_iload_n C.1 C.2.1 (dk_at dkX6_sum 45 rfl) rfl (lv_at hl 3 rfl) ?_
      refine lv_iconst (v := 1) C.1 C.2.1 (dk_at dkX6_sum 46 rfl) (by decide) ?_
      refine lv_icmp_ne (tgt := 88) C.1 C.2.1 (dk_at dkX6_sum 47 rfl) (by decide) (fun c21 => ?_) (fun c21 => ?_)
      · have hf := (if_neg c21).symm.trans hf
        refine lv_iload_n C.1 C.2.1 (dk_at dkX6_sum 51 rfl) rfl (lv_at hl 3 rfl) ?_
        refine lv_iconst (v := 2) C.1 C.2.1 (dk_at dkX6_sum 52 rfl) (by decide) ?_
        refine lv_icmp_ne (tgt := 97) C.1 C.2.1 (dk_at dkX6_sum 53 rfl) (by decide) (fun c22 => ?_) (fun c22 => ?_)
        · have hf := (if_neg c22).symm.trans hf
          refine lv_iload_n C.1 C.2.1 (dk_at dkX6_sum 56 rfl) rfl (lv_at hl 0 rfl) ?_
          cases hf
          exact fin _ _ _ _ _ (dk_at dkX6_sum 57 rfl) rfl w
        · have hf := (if_pos c22).symm.trans hf
          refine lv_iload_n C.1 C.2.1 (dk_at dkX6_sum 54 rfl) rfl (lv_at hl 1 rfl) ?_
          refine lv_goto (tgt := 98) C.1 C.2.1 (dk_at dkX6_sum 55 rfl) (by decide) ?_
          cases hf
          exact fin _ _ _ _ _ (dk_at dkX6_sum 57 rfl) rfl w
      · have hf := (if_pos c21).symm.trans hf
        refine lv_aload_n C.1 C.2.1 (dk_at dkX6_sum 48 rfl) rfl (lv_at hl 2 rfl) ?_
        obtain ⟨r23, hq24, hf⟩ := bd1_at hf
        refine r_roV (As := []) (rest := []) C (kX6_walls l g a_m st now_5 isKept hearers draft dHearers dWalls toldWinds tape taped pos frm sort value fault wrongAt landed_6 landedIn_7 stepped_8 isThere isAt isNext landSum heardSum allWays ways drawn lanes sizes cells torn before r23 hq24) (cwV0 C (inr17 _ (List.mem_of_getElem? (i := 10) rfl)) mwX6_walls hdX6_walls ⟨Nat.le_of_ble_eq_true rfl, Nat.le_of_ble_eq_true rfl⟩) hK w.1 rfl rfl rfl hl.1 rfl (Nat.le_of_ble_eq_true rfl) ⟨Nat.zero_le _, Nat.zero_le _⟩ (dk_at dkX6_sum 49 rfl) ?_
        refine lv_goto (tgt := 98) C.1 C.2.1 (dk_at dkX6_sum 50 rfl) (by decide) ?_
        cases hf
        exact fin _ _ _ _ _ (dk_at dkX6_sum 57 rfl) rfl w
    · have hf := (if_pos c20).symm.trans hf
      refine lv_aload_n C.1 C.2.1 (dk_at dkX6_sum 42 rfl) rfl (lv_at hl 2 rfl) ?_
      obtain ⟨r25, hq26, hf⟩ := bd1_at hf
      refine r_roV (As := []) (rest := []) C (kX6_heard l g a_m st now_5 isKept hearers draft dHearers dWalls toldWinds tape taped pos frm sort value fault wrongAt landed_6 landedIn_7 stepped_8 isThere isAt isNext landSum heardSum allWays ways drawn lanes sizes cells torn before r25 hq26) (cwV0 C (inr28 _ (List.mem_of_getElem? (i := 2) rfl)) mwX6_heard hdX6_heard ⟨Nat.le_of_ble_eq_true rfl, Nat.le_of_ble_eq_true rfl⟩) hK w.1 rfl rfl rfl hl.1 rfl (Nat.le_of_ble_eq_true rfl) ⟨Nat.zero_le _, Nat.zero_le _⟩ (dk_at dkX6_sum 43 rfl) ?_
      refine lv_goto (tgt := 98) C.1 C.2.1 (dk_at dkX6_sum 44 rfl) (by decide) ?_
      cases hf
      exact fin _ _ _ _ _ (dk_at dkX6_sum 57 rfl) rfl w
  · have hf := (if_pos c4).symm.trans hf
    refine lv_iconst (v := (-1)) C.1 C.2.1 (dk_at dkX6_sum 6 rfl) (by decide) ?_
    cases hf
    exact fin _ _ _ _ _ (dk_at dkX6_sum 7 rfl) rfl w
-- X6.isWallAhead
abbrev tbX6_isWallAhead : List (Nat × Instr × Nat) := [(0, .aload_n 0, 1), (1, .getfield 7, 3), (4, .iload_n 1, 1), (5, .bipush 10, 2), (7, .idiv, 1), (8, .iaload, 1), (9, .iload_n 1, 1), (10, .bipush 10, 2), (12, .irem, 1), (13, .ishr, 1), (14, .iconst 1, 1), (15, .iand, 1), (16, .iconst 1, 1), (17, .if_icmp .ne 7, 3), (20, .iconst 1, 1), (21, .goto 4, 3), (24, .iconst 0, 1), (25, .ireturn, 1)]
theorem dkX6_isWallAhead : dk cX6_isWallAhead tbX6_isWallAhead := dk_of (by decide +kernel)
abbrev cdX6_isWallAhead : Cond := Cond.code yX6_isWallAhead cX6_isWallAhead 2 (some .boolean)
abbrev rmX6_isWallAhead : Room := { frames := 0, cells := 0, slots := 0, locals := 0 }
theorem mwX6_isWallAhead : Cond.instanceMethod yX6_isWallAhead ∈ wsL_law ∧ Cond.selects RX6 yX6_isWallAhead yX6_isWallAhead ∈ wsL_law ∧ Cond.initialized RX6 ∈ wsL_law ∧ cdX6_isWallAhead ∈ wsL_law := ⟨inr29 _ (List.mem_of_getElem? (i := 5) rfl), inr29 _ (List.mem_of_getElem? (i := 6) rfl), inr1 _ (List.mem_of_getElem? (i := 5) rfl), inr29 _ (List.mem_of_getElem? (i := 7) rfl)⟩
theorem hdX6_isWallAhead : yX6_isWallAhead.cls = RX6 ∧ yX6_isWallAhead.cls ≠ "java/lang/invoke/MethodHandle" ∧ yX6_isWallAhead.cls ≠ "java/lang/invoke/VarHandle" ∧ (parseMethodDescriptor yX6_isWallAhead.desc).map (fun d => d.parameters.length) = some 1 := by decide +kernel
set_option maxHeartbeats 4000000 in
set_option maxRecDepth 100000 in
theorem kX6_isWallAhead (l : Launch) (g : Gx) (a_m : Nat → Nat) (st : AI) (now : AI) (isKept : AI) (hearers : Int32) (draft : AI) (dHearers : Int32) (dWalls : Int32) (toldWinds : Int32) (tape : AI) (taped : Int32) (pos : Int32) (frm : Int32) (sort : Int32) (value : Int32) (fault : Int32) (wrongAt : Int32) (landed : AI) (landedIn : AI) (stepped : AI) (isThere : AI) (isAt : AI) (isNext : AI) (landSum : Int64) (heardSum : Int64) (allWays : Int64) (ways : AI) (drawn : AI) (lanes : AI) (sizes : AI) (cells : AI) (torn : Int32) (before : AI) (p1 : Int32) (res : Int32) (hf : fX6_isWallAhead p1 st = some res) : Met l yX6_isWallAhead (cdX6_isWallAhead :: wsL_law) rmX6_isWallAhead (va_Pc [.ref (a_m 0), .int p1] (RO g (wM g a_m st now isKept hearers draft dHearers dWalls toldWinds tape taped pos frm sort value fault wrongAt landed landedIn stepped isThere isAt isNext landSum heardSum allWays ways drawn lanes sizes cells torn before))) (vp_Si (fun x => x = res)) 0 0 (fun _ => False) := by
  refine Met_roz (cc := cX6_isWallAhead) (maxL := 2) (by decide) rfl (Nat.le_of_ble_eq_true rfl) ?_
  intro P E Z Mi AR BE ME CO Q C fin hK hP ls hl
  have hl : lv_has ls 2 [(0, .ref (a_m 0)), (1, .int p1)] := hl
  unfold fX6_isWallAhead at hf
  refine lv_aload_n C.1 C.2.1 (dk_at dkX6_isWallAhead 0 rfl) rfl (lv_at hl 0 rfl) ?_
  refine r_get (v := .ref (a_m 1)) C hK hP (fun w h => List.mem_cons_of_mem _ (inlX6 w h)) 0 rfl rfl 0 (by decide) (List.mem_cons_of_mem _ (inr4 _ (List.mem_of_getElem? (i := 4) rfl))) rfl (dk_at dkX6_isWallAhead 1 rfl) ?_
  refine lv_iload_n C.1 C.2.1 (dk_at dkX6_isWallAhead 2 rfl) rfl (lv_at hl 1 rfl) ?_
  refine lv_bipush (v := 10) C.1 C.2.1 (dk_at dkX6_isWallAhead 3 rfl) (by decide) ?_
  refine lv_idiv C.1 C.2.1 (dk_at dkX6_isWallAhead 4 rfl) (by decide) ?_
  refine lv_topi (fun x1 ex1 => ?_)
  have hf := nm_at ex1 hf
  obtain ⟨h2, hf⟩ := gd_at hf
  refine r_iald (k := x1.toNatClampNeg) (f := st) C hK hP 1 rfl h2 rfl (dk_at dkX6_isWallAhead 5 rfl) ?_
  refine lv_topi (fun x3 ex3 => ?_)
  have hf := nm_at ex3 hf
  refine lv_iload_n C.1 C.2.1 (dk_at dkX6_isWallAhead 6 rfl) rfl (lv_at hl 1 rfl) ?_
  refine lv_bipush (v := 10) C.1 C.2.1 (dk_at dkX6_isWallAhead 7 rfl) (by decide) ?_
  refine lv_irem C.1 C.2.1 (dk_at dkX6_isWallAhead 8 rfl) (by decide) ?_
  refine lv_ishr C.1 C.2.1 (dk_at dkX6_isWallAhead 9 rfl) ?_
  refine lv_topi (fun x4 ex4 => ?_)
  have hf := nm_at ex4 hf
  refine lv_iconst (v := 1) C.1 C.2.1 (dk_at dkX6_isWallAhead 10 rfl) (by decide) ?_
  refine lv_iand C.1 C.2.1 (dk_at dkX6_isWallAhead 11 rfl) ?_
  refine lv_topi (fun x5 ex5 => ?_)
  have hf := nm_at ex5 hf
  refine lv_iconst (v := 1) C.1 C.2.1 (dk_at dkX6_isWallAhead 12 rfl) (by decide) ?_
  refine lv_icmp_ne (tgt := 24) C.1 C.2.1 (dk_at dkX6_isWallAhead 13 rfl) (by decide) (fun c6 => ?_) (fun c6 => ?_)
  · have hf := (if_neg c6).symm.trans hf
    refine lv_iconst (v := 0) C.1 C.2.1 (dk_at dkX6_isWallAhead 16 rfl) (by decide) ?_
    cases hf
    exact fin _ _ _ (dk_at dkX6_isWallAhead 17 rfl) rfl rfl
  · have hf := (if_pos c6).symm.trans hf
    refine lv_iconst (v := 1) C.1 C.2.1 (dk_at dkX6_isWallAhead 14 rfl) (by decide) ?_
    refine lv_goto (tgt := 25) C.1 C.2.1 (dk_at dkX6_isWallAhead 15 rfl) (by decide) ?_
    cases hf
    exact fin _ _ _ (dk_at dkX6_isWallAhead 17 rfl) rfl rfl
-- X6.most
abbrev tbX6_most : List (Nat × Instr × Nat) := [(0, .iload_n 1, 1), (1, .invokestatic 243, 3), (4, .ifCond .ne 5, 3), (7, .iconst (-1), 1), (8, .ireturn, 1), (9, .aload_n 0, 1), (10, .invokevirtual 237, 3), (13, .iconst (-1), 1), (14, .istore_n 2, 1), (15, .bipush (-4), 2), (17, .istore_n 3, 1), (18, .iconst 0, 1), (19, .istore 4, 2), (21, .iload 4, 2), (23, .bipush 64, 2), (25, .if_icmp .ge 66, 3), (28, .iload 4, 2), (30, .invokestatic 249, 3), (33, .istore 5, 2), (35, .aload_n 0, 1), (36, .iload 5, 2), (38, .invokevirtual 252, 3), (41, .ifCond .eq 7, 3), (44, .iconst (-1), 1), (45, .goto 12, 3), (48, .aload_n 0, 1), (49, .iload 5, 2), (51, .invokevirtual 240, 3), (54, .invokestatic 178, 3), (57, .istore 6, 2), (59, .iload 6, 2), (61, .iload_n 2, 1), (62, .if_icmp .le 8, 3), (65, .iload 5, 2), (67, .goto 4, 3), (70, .iload_n 3, 1), (71, .istore_n 3, 1), (72, .iload 6, 2), (74, .iload_n 2, 1), (75, .if_icmp .le 8, 3), (78, .iload 6, 2), (80, .goto 4, 3), (83, .iload_n 2, 1), (84, .istore_n 2, 1), (85, .iinc 4 1, 3), (88, .goto (-67), 3), (91, .iload_n 3, 1), (92, .bipush (-4), 2), (94, .if_icmp .ne 8, 3), (97, .bipush (-4), 2), (99, .goto 12, 3), (102, .iload_n 1, 1), (103, .ifCond .ne 7, 3), (106, .iload_n 3, 1), (107, .goto 4, 3), (110, .iload_n 2, 1), (111, .ireturn, 1)]
theorem dkX6_most : dk cX6_most tbX6_most := dk_of (by decide +kernel)
abbrev cdX6_most : Cond := Cond.code yX6_most cX6_most 7 (some .int)
abbrev rmX6_most : Room := { frames := 5, cells := 0, slots := 0, locals := 117 }
theorem mwX6_most : Cond.instanceMethod yX6_most ∈ wsL_law ∧ Cond.selects RX6 yX6_most yX6_most ∈ wsL_law ∧ Cond.initialized RX6 ∈ wsL_law ∧ cdX6_most ∈ wsL_law := ⟨inr28 _ (List.mem_of_getElem? (i := 22) rfl), inr28 _ (List.mem_of_getElem? (i := 23) rfl), inr1 _ (List.mem_of_getElem? (i := 5) rfl), inr29 _ (List.mem_of_getElem? (i := 0) rfl)⟩
theorem hdX6_most : yX6_most.cls = RX6 ∧ yX6_most.cls ≠ "java/lang/invoke/MethodHandle" ∧ yX6_most.cls ≠ "java/lang/invoke/VarHandle" ∧ (parseMethodDescriptor yX6_most.desc).map (fun d => d.parameters.length) = some 1 := by decide +kernel
set_option maxHeartbeats 4000000 in
set_option maxRecDepth 100000 in
theorem kX6_most (l : Launch) (g : Gx) (sz : Nat) (a_m : Nat → Nat) (st : AI) (now : AI) (isKept : AI) (hearers : Int32) (draft : AI) (dHearers : Int32) (dWalls : Int32) (toldWinds : Int32) (tape : AI) (taped : Int32) (pos : Int32) (frm : Int32) (sort : Int32) (value : Int32) (fault : Int32) (wrongAt : Int32) (landed : AI) (landedIn : AI) (stepped : AI) (isThere : AI) (isAt : AI) (isNext : AI) (landSum : Int64) (heardSum : Int64) (allWays : Int64) (ways : AI) (drawn : AI) (lanes : AI) (sizes : AI) (cells : AI) (torn : Int32) (before : AI) (p1 : Int32) (res : Int32) (now_o : AI) (landed_o : AI) (landedIn_o : AI) (stepped_o : AI) (hf : fX6_most p1 st now landed landedIn stepped = some (res, now_o, landed_o, landedIn_o, stepped_o)) : Met l yX6_most (cdX6_most :: wsL_law) rmX6_most (va_Pc [.ref (a_m 0), .int p1] (RWp g sz (wM g a_m st now isKept hearers draft dHearers dWalls toldWinds tape taped pos frm sort value fault wrongAt landed landedIn stepped isThere isAt isNext landSum heardSum allWays ways drawn lanes sizes cells torn before))) (va_Qi (fun x (_ : Unit) => x = res) (fun _ => RWq g (va_A (wM g a_m st now isKept hearers draft dHearers dWalls toldWinds tape taped pos frm sort value fault wrongAt landed landedIn stepped isThere isAt isNext landSum heardSum allWays ways drawn lanes sizes cells torn before) sz) (wM g a_m st now_o isKept hearers draft dHearers dWalls toldWinds tape taped pos frm sort value fault wrongAt landed_o landedIn_o stepped_o isThere isAt isNext landSum heardSum allWays ways drawn lanes sizes cells torn before)) (va_A (wM g a_m st now isKept hearers draft dHearers dWalls toldWinds tape taped pos frm sort value fault wrongAt landed landedIn stepped isThere isAt isNext landSum heardSum allWays ways drawn lanes sizes cells torn before) sz)) 0 0 (va_A (wM g a_m st now isKept hearers draft dHearers dWalls toldWinds tape taped pos frm sort value fault wrongAt landed landedIn stepped isThere isAt isNext landSum heardSum allWays ways drawn lanes sizes cells torn before) sz) := by
  refine Met_rwi (cc := cX6_most) (maxL := 7) (by decide) rfl (Nat.le_of_ble_eq_true rfl) ?_
  intro P E Z Mi AR BE ME CO A Q C hK hA fin w ls hl
  have hl : lv_has ls 7 [(0, .ref (a_m 0)), (1, .int p1)] := hl
  unfold fX6_most at hf
  refine lv_iload_n C.1 C.2.1 (dk_at dkX6_most 0 rfl) rfl (lv_at hl 1 rfl) ?_
  obtain ⟨r1, hq2, hf⟩ := bd1_at hf
  refine r_st (As := [.int p1]) (rest := []) C (kX6_isPart l p1 r1 hq2) (cwS0 C (inr26 _ (List.mem_of_getElem? (i := 22) rfl)) mwX6_isPart hdX6_isPart ⟨Nat.le_of_ble_eq_true rfl, Nat.le_of_ble_eq_true rfl⟩) rfl hl.1 rfl (Nat.le_of_ble_eq_true rfl) ⟨Nat.zero_le _, Nat.zero_le _⟩ (dk_at dkX6_most 1 rfl) ?_
  refine lv_if_ne (tgt := 9) C.1 C.2.1 (dk_at dkX6_most 2 rfl) (by decide) (fun c3 => ?_) (fun c3 => ?_)
  · have hf := (if_neg c3).symm.trans hf
    refine lv_aload_n C.1 C.2.1 (dk_at dkX6_most 5 rfl) rfl (lv_at hl 0 rfl) ?_
    obtain ⟨now_4, landed_5, landedIn_6, stepped_7, hq8, hf⟩ := bd4_at hf
    refine r_rwv (As := []) (rest := []) (wr := []) (ws' := wM g a_m st now_4 isKept hearers draft dHearers dWalls toldWinds tape taped pos frm sort value fault wrongAt landed_5 landedIn_6 stepped_7 isThere isAt isNext landSum heardSum allWays ways drawn lanes sizes cells torn before) C (kX6_goesAsItIs l g _ a_m st now isKept hearers draft dHearers dWalls toldWinds tape taped pos frm sort value fault wrongAt landed landedIn stepped isThere isAt isNext landSum heardSum allWays ways drawn lanes sizes cells torn before now_4 landed_5 landedIn_6 stepped_7 hq8) (cwV0 C (inr25 _ (List.mem_of_getElem? (i := 5) rfl)) mwX6_goesAsItIs hdX6_goesAsItIs ⟨Nat.le_of_ble_eq_true rfl, Nat.le_of_ble_eq_true rfl⟩) hK w hA [0, 1, 2, 3, 4, 5, 6, 7, 8, 9, 10, 11, 12, 13, 14, 15, 16, 17] [] [0, 1, 2, 3, 4, 5, 6, 7, 8, 9, 10, 11, 12, 13, 14, 15, 16, 17] (by decide) rfl rfl (by decide) (by decide) rfl (by decide) rfl rfl rfl hl.1 rfl (Nat.le_of_ble_eq_true rfl) ⟨Nat.zero_le _, Nat.zero_le _⟩ (dk_at dkX6_most 6 rfl) (fun H locs w => ?_)
    refine lv_iconst (v := (-1)) C.1 C.2.1 (dk_at dkX6_most 7 rfl) (by decide) ?_
    refine lv_istore_n (lv' := [(2, .int (-1)), (0, .ref (a_m 0)), (1, .int p1)]) C.1 C.2.1 (dk_at dkX6_most 8 rfl) rfl hl (by decide) rfl (fun ls hl => ?_)
    refine lv_bipush (v := (-4)) C.1 C.2.1 (dk_at dkX6_most 9 rfl) (by decide) ?_
    refine lv_istore_n (lv' := [(3, .int (-4)), (2, .int (-1)), (0, .ref (a_m 0)), (1, .int p1)]) C.1 C.2.1 (dk_at dkX6_most 10 rfl) rfl hl (by decide) rfl (fun ls hl => ?_)
    refine lv_iconst (v := 0) C.1 C.2.1 (dk_at dkX6_most 11 rfl) (by decide) ?_
    refine lv_istore (lv' := [(4, .int 0), (3, .int (-4)), (2, .int (-1)), (0, .ref (a_m 0)), (1, .int p1)]) C.1 C.2.1 (dk_at dkX6_most 12 rfl) hl (by decide) rfl (fun ls hl => ?_)
    have L12 : ∀ (K : Int32 → Int32 → Int32 → Option (Int32 × AI × AI × AI × AI)), (∀ (v9 : Int32) (v10 : Int32) (v11 : Int32) (H : Heap) (locs : List Loc) (ls : Array Slot), Wd g A Z.heap (wM g a_m st now_4 isKept hearers draft dHearers dWalls toldWinds tape taped pos frm sort value fault wrongAt landed_5 landedIn_6 stepped_7 isThere isAt isNext landSum heardSum allWays ways drawn lanes sizes cells torn before) H locs → lv_has ls 7 [(3, .int v10), (2, .int v11), (1, .int p1)] → K v9 v10 v11 = some (res, now_o, landed_o, landedIn_o, stepped_o) → W P l E rmX6_most Z Mi AR BE ME CO H locs 0 0 Q (F0 Mi 91 ls [])) → ∀ (n : Nat), ∀ (v9 : Int32) (v10 : Int32) (v11 : Int32) (H : Heap) (locs : List Loc) (ls : Array Slot), Wd g A Z.heap (wM g a_m st now_4 isKept hearers draft dHearers dWalls toldWinds tape taped pos frm sort value fault wrongAt landed_5 landedIn_6 stepped_7 isThere isAt isNext landSum heardSum allWays ways drawn lanes sizes cells torn before) H locs → lv_has ls 7 [(4, .int v9), (3, .int v10), (2, .int v11), (0, .ref (a_m 0)), (1, .int p1)] → fX6_most_L21 st now_4 landed_5 K n v9 v10 v11 = some (res, now_o, landed_o, landedIn_o, stepped_o) → W P l E rmX6_most Z Mi AR BE ME CO H locs 0 0 Q (F0 Mi 21 ls []) := by
      intro K hKe n
      induction n with
      | zero => intro v9 v10 v11 H locs ls w hl hf; cases hf
      | succ n ih =>
        intro v9 v10 v11 H locs ls w hl hf
        rw [fX6_most_L21] at hf
        refine lv_iload C.1 C.2.1 (dk_at dkX6_most 13 rfl) (lv_at hl 0 rfl) ?_
        refine lv_bipush (v := 64) C.1 C.2.1 (dk_at dkX6_most 14 rfl) (by decide) ?_
        refine lv_icmp_ge (tgt := 91) C.1 C.2.1 (dk_at dkX6_most 15 rfl) (by decide) (fun c13 => ?_) (fun c13 => ?_)
        · have hf := (if_pos c13).symm.trans hf
          exact hKe v9 v10 v11 _ _ _ w (lv_sub hl [1, 2, 4] rfl) hf
        · have hf := (if_neg c13).symm.trans hf
          refine lv_iload C.1 C.2.1 (dk_at dkX6_most 16 rfl) (lv_at hl 0 rfl) ?_
          obtain ⟨r14, hq15, hf⟩ := bd1_at hf
          refine r_st (As := [.int v9]) (rest := []) C (kX6_cellAt l v9 r14 hq15) (cwS0 C (inr29 _ (List.mem_of_getElem? (i := 1) rfl)) mwX6_cellAt hdX6_cellAt ⟨Nat.le_of_ble_eq_true rfl, Nat.le_of_ble_eq_true rfl⟩) rfl hl.1 rfl (Nat.le_of_ble_eq_true rfl) ⟨Nat.zero_le _, Nat.zero_le _⟩ (dk_at dkX6_most 17 rfl) ?_
          refine lv_istore (lv' := [(5, .int r14), (4, .int v9), (3, .int v10), (2, .int v11), (0, .ref (a_m 0)), (1, .int p1)]) C.1 C.2.1 (dk_at dkX6_most 18 rfl) hl (by decide) rfl (fun ls hl => ?_)
          refine lv_aload_n C.1 C.2.1 (dk_at dkX6_most 19 rfl) rfl (lv_at hl 4 rfl) ?_
          refine lv_iload C.1 C.2.1 (dk_at dkX6_most 20 rfl) (lv_at hl 0 rfl) ?_
          obtain ⟨r16, hq17, hf⟩ := bd1_at hf
          refine r_roV (As := [.int r14]) (rest := []) C (kX6_isWallAhead l g a_m st now_4 isKept hearers draft dHearers dWalls toldWinds tape taped pos frm sort value fault wrongAt landed_5 landedIn_6 stepped_7 isThere isAt isNext landSum heardSum allWays ways drawn lanes sizes cells torn before r14 r16 hq17) (cwV0 C (inr29 _ (List.mem_of_getElem? (i := 4) rfl)) mwX6_isWallAhead hdX6_isWallAhead ⟨Nat.le_of_ble_eq_true rfl, Nat.le_of_ble_eq_true rfl⟩) hK w.1 rfl rfl rfl hl.1 rfl (Nat.le_of_ble_eq_true rfl) ⟨Nat.zero_le _, Nat.zero_le _⟩ (dk_at dkX6_most 21 rfl) ?_
          obtain ⟨y18, hq19, hf⟩ := bd1_at hf
          have J20 : ∀ (H : Heap) (locs : List Loc) (ls : Array Slot), Wd g A Z.heap (wM g a_m st now_4 isKept hearers draft dHearers dWalls toldWinds tape taped pos frm sort value fault wrongAt landed_5 landedIn_6 stepped_7 isThere isAt isNext landSum heardSum allWays ways drawn lanes sizes cells torn before) H locs → lv_has ls 7 [(5, .int r14), (4, .int v9), (3, .int v10), (2, .int v11), (0, .ref (a_m 0)), (1, .int p1)] → W P l E rmX6_most Z Mi AR BE ME CO H locs 0 0 Q (F0 Mi 57 ls [.int y18]) := by
            intro H locs ls w hl
            refine lv_istore (lv' := [(6, .int y18), (5, .int r14), (4, .int v9), (3, .int v10), (2, .int v11), (0, .ref (a_m 0)), (1, .int p1)]) C.1 C.2.1 (dk_at dkX6_most 29 rfl) hl (by decide) rfl (fun ls hl => ?_)
            refine lv_iload C.1 C.2.1 (dk_at dkX6_most 30 rfl) (lv_at hl 0 rfl) ?_
            refine lv_iload_n C.1 C.2.1 (dk_at dkX6_most 31 rfl) rfl (lv_at hl 4 rfl) ?_
            obtain ⟨y21, hq22, hf⟩ := bd1_at hf
            have J23 : ∀ (H : Heap) (locs : List Loc) (ls : Array Slot), Wd g A Z.heap (wM g a_m st now_4 isKept hearers draft dHearers dWalls toldWinds tape taped pos frm sort value fault wrongAt landed_5 landedIn_6 stepped_7 isThere isAt isNext landSum heardSum allWays ways drawn lanes sizes cells torn before) H locs → lv_has ls 7 [(6, .int y18), (4, .int v9), (2, .int v11), (0, .ref (a_m 0)), (1, .int p1)] → W P l E rmX6_most Z Mi AR BE ME CO H locs 0 0 Q (F0 Mi 71 ls [.int y21]) := by
              intro H locs ls w hl
              refine lv_istore_n (lv' := [(3, .int y21), (6, .int y18), (4, .int v9), (2, .int v11), (0, .ref (a_m 0)), (1, .int p1)]) C.1 C.2.1 (dk_at dkX6_most 36 rfl) rfl hl (by decide) rfl (fun ls hl => ?_)
              refine lv_iload C.1 C.2.1 (dk_at dkX6_most 37 rfl) (lv_at hl 1 rfl) ?_
              refine lv_iload_n C.1 C.2.1 (dk_at dkX6_most 38 rfl) rfl (lv_at hl 3 rfl) ?_
              refine lv_icmp_le (tgt := 83) C.1 C.2.1 (dk_at dkX6_most 39 rfl) (by decide) (fun c24 => ?_) (fun c24 => ?_)
              · have hf := (if_pos c24).symm.trans hf
                refine lv_iload_n C.1 C.2.1 (dk_at dkX6_most 42 rfl) rfl (lv_at hl 3 rfl) ?_
                refine lv_istore_n (lv' := [(2, .int v11), (3, .int y21), (6, .int y18), (4, .int v9), (0, .ref (a_m 0)), (1, .int p1)]) C.1 C.2.1 (dk_at dkX6_most 43 rfl) rfl hl (by decide) rfl (fun ls hl => ?_)
                obtain ⟨x25, ex25⟩ : ∃ z : Int32, z = v9 + 1 := ⟨_, rfl⟩
                have hf := nm_at ex25 hf
                refine lv_iinc (v := x25) (lv' := [(4, .int x25), (2, .int v11), (3, .int y21), (6, .int y18), (0, .ref (a_m 0)), (1, .int p1)]) C.1 C.2.1 (dk_at dkX6_most 44 rfl) hl (k := 3) rfl (by rw [ex25]; rfl) (by decide) rfl (fun ls hl => ?_)
                refine lv_goto (tgt := 21) C.1 C.2.1 (dk_at dkX6_most 45 rfl) (by decide) ?_
                exact ih x25 y21 v11 _ _ _ w (lv_sub hl [0, 2, 1, 4, 5] rfl) hf
              · have hf := (if_neg c24).symm.trans hf
                refine lv_iload C.1 C.2.1 (dk_at dkX6_most 40 rfl) (lv_at hl 1 rfl) ?_
                refine lv_goto (tgt := 84) C.1 C.2.1 (dk_at dkX6_most 41 rfl) (by decide) ?_
                refine lv_istore_n (lv' := [(2, .int y18), (3, .int y21), (6, .int y18), (4, .int v9), (0, .ref (a_m 0)), (1, .int p1)]) C.1 C.2.1 (dk_at dkX6_most 43 rfl) rfl hl (by decide) rfl (fun ls hl => ?_)
                obtain ⟨x26, ex26⟩ : ∃ z : Int32, z = v9 + 1 := ⟨_, rfl⟩
                have hf := nm_at ex26 hf
                refine lv_iinc (v := x26) (lv' := [(4, .int x26), (2, .int y18), (3, .int y21), (6, .int y18), (0, .ref (a_m 0)), (1, .int p1)]) C.1 C.2.1 (dk_at dkX6_most 44 rfl) hl (k := 3) rfl (by rw [ex26]; rfl) (by decide) rfl (fun ls hl => ?_)
                refine lv_goto (tgt := 21) C.1 C.2.1 (dk_at dkX6_most 45 rfl) (by decide) ?_
                exact ih x26 y21 y18 _ _ _ w (lv_sub hl [0, 2, 1, 4, 5] rfl) hf
            clear hf
            have hf := hq22
            refine lv_icmp_le (tgt := 70) C.1 C.2.1 (dk_at dkX6_most 32 rfl) (by decide) (fun c27 => ?_) (fun c27 => ?_)
            · have hf := (if_pos c27).symm.trans hf
              refine lv_iload_n C.1 C.2.1 (dk_at dkX6_most 35 rfl) rfl (lv_at hl 3 rfl) ?_
              cases hf
              exact J23 _ _ _ w (lv_sub hl [0, 2, 4, 5, 6] rfl)
            · have hf := (if_neg c27).symm.trans hf
              refine lv_iload C.1 C.2.1 (dk_at dkX6_most 33 rfl) (lv_at hl 1 rfl) ?_
              refine lv_goto (tgt := 71) C.1 C.2.1 (dk_at dkX6_most 34 rfl) (by decide) ?_
              cases hf
              exact J23 _ _ _ w (lv_sub hl [0, 2, 4, 5, 6] rfl)
          clear hf
          have hf := hq19
          refine lv_if_eq (tgt := 48) C.1 C.2.1 (dk_at dkX6_most 22 rfl) (by decide) (fun c28 => ?_) (fun c28 => ?_)
          · have hf := (if_pos c28).symm.trans hf
            refine lv_aload_n C.1 C.2.1 (dk_at dkX6_most 25 rfl) rfl (lv_at hl 4 rfl) ?_
            refine lv_iload C.1 C.2.1 (dk_at dkX6_most 26 rfl) (lv_at hl 0 rfl) ?_
            obtain ⟨r29, hq30, hf⟩ := bd1_at hf
            refine r_roV (As := [.int r14]) (rest := []) C (kX6_landIn l g a_m st now_4 isKept hearers draft dHearers dWalls toldWinds tape taped pos frm sort value fault wrongAt landed_5 landedIn_6 stepped_7 isThere isAt isNext landSum heardSum allWays ways drawn lanes sizes cells torn before r14 r29 hq30) (cwV0 C (inr26 _ (List.mem_of_getElem? (i := 9) rfl)) mwX6_landIn hdX6_landIn ⟨Nat.le_of_ble_eq_true rfl, Nat.le_of_ble_eq_true rfl⟩) hK w.1 rfl rfl rfl hl.1 rfl (Nat.le_of_ble_eq_true rfl) ⟨Nat.zero_le _, Nat.zero_le _⟩ (dk_at dkX6_most 27 rfl) ?_
            obtain ⟨r31, hq32, hf⟩ := bd1_at hf
            refine r_st (As := [.int r29]) (rest := []) C (kX6_bitsOf l r29 r31 hq32) (cwS0 C (inr17 _ (List.mem_of_getElem? (i := 14) rfl)) mwX6_bitsOf hdX6_bitsOf ⟨Nat.le_of_ble_eq_true rfl, Nat.le_of_ble_eq_true rfl⟩) rfl hl.1 rfl (Nat.le_of_ble_eq_true rfl) ⟨Nat.zero_le _, Nat.zero_le _⟩ (dk_at dkX6_most 28 rfl) ?_
            cases hf
            exact J20 _ _ _ w (lv_sub hl [0, 1, 2, 3, 4, 5] rfl)
          · have hf := (if_neg c28).symm.trans hf
            refine lv_iconst (v := (-1)) C.1 C.2.1 (dk_at dkX6_most 23 rfl) (by decide) ?_
            refine lv_goto (tgt := 57) C.1 C.2.1 (dk_at dkX6_most 24 rfl) (by decide) ?_
            cases hf
            exact J20 _ _ _ w (lv_sub hl [0, 1, 2, 3, 4, 5] rfl)
    refine L12 _ ?_ 4096 0 (-4) (-1) _ _ _ w (lv_sub hl [0, 1, 2, 3, 4] rfl) hf
    clear hf
    intro v9 v10 v11 H locs ls w hl hf
    refine lv_iload_n C.1 C.2.1 (dk_at dkX6_most 46 rfl) rfl (lv_at hl 0 rfl) ?_
    refine lv_bipush (v := (-4)) C.1 C.2.1 (dk_at dkX6_most 47 rfl) (by decide) ?_
    refine lv_icmp_ne (tgt := 102) C.1 C.2.1 (dk_at dkX6_most 48 rfl) (by decide) (fun c33 => ?_) (fun c33 => ?_)
    · have hf := (if_neg c33).symm.trans hf
      refine lv_iload_n C.1 C.2.1 (dk_at dkX6_most 51 rfl) rfl (lv_at hl 2 rfl) ?_
      refine lv_if_ne (tgt := 110) C.1 C.2.1 (dk_at dkX6_most 52 rfl) (by decide) (fun c34 => ?_) (fun c34 => ?_)
      · have hf := (if_neg c34).symm.trans hf
        refine lv_iload_n C.1 C.2.1 (dk_at dkX6_most 55 rfl) rfl (lv_at hl 1 rfl) ?_
        cases hf
        exact fin _ _ _ _ _ (dk_at dkX6_most 56 rfl) rfl w
      · have hf := (if_pos c34).symm.trans hf
        refine lv_iload_n C.1 C.2.1 (dk_at dkX6_most 53 rfl) rfl (lv_at hl 0 rfl) ?_
        refine lv_goto (tgt := 111) C.1 C.2.1 (dk_at dkX6_most 54 rfl) (by decide) ?_
        cases hf
        exact fin _ _ _ _ _ (dk_at dkX6_most 56 rfl) rfl w
    · have hf := (if_pos c33).symm.trans hf
      refine lv_bipush (v := (-4)) C.1 C.2.1 (dk_at dkX6_most 49 rfl) (by decide) ?_
      refine lv_goto (tgt := 111) C.1 C.2.1 (dk_at dkX6_most 50 rfl) (by decide) ?_
      cases hf
      exact fin _ _ _ _ _ (dk_at dkX6_most 56 rfl) rfl w
  · have hf := (if_pos c3).symm.trans hf
    refine lv_iconst (v := (-1)) C.1 C.2.1 (dk_at dkX6_most 3 rfl) (by decide) ?_
    cases hf
    exact fin _ _ _ _ _ (dk_at dkX6_most 4 rfl) rfl w
-- X6.goesSaid
abbrev tbX6_goesSaid : List (Nat × Instr × Nat) := [(0, .aload_n 0, 1), (1, .invokevirtual 201, 3), (4, .aload_n 0, 1), (5, .iload_n 1, 1), (6, .iconst 3, 1), (7, .iload_n 2, 1), (8, .invokevirtual 255, 3), (11, .aload_n 0, 1), (12, .iload_n 1, 1), (13, .iconst 2, 1), (14, .iload_n 3, 1), (15, .invokevirtual 255, 3), (18, .aload_n 0, 1), (19, .invokevirtual 204, 3), (22, .return_, 1)]
theorem dkX6_goesSaid : dk cX6_goesSaid tbX6_goesSaid := dk_of (by decide +kernel)
abbrev cdX6_goesSaid : Cond := Cond.code yX6_goesSaid cX6_goesSaid 4 none
abbrev rmX6_goesSaid : Room := { frames := 4, cells := 0, slots := 0, locals := 97 }
theorem mwX6_goesSaid : Cond.instanceMethod yX6_goesSaid ∈ wsL_law ∧ Cond.selects RX6 yX6_goesSaid yX6_goesSaid ∈ wsL_law ∧ Cond.initialized RX6 ∈ wsL_law ∧ cdX6_goesSaid ∈ wsL_law := ⟨inr29 _ (List.mem_of_getElem? (i := 21) rfl), inr29 _ (List.mem_of_getElem? (i := 22) rfl), inr1 _ (List.mem_of_getElem? (i := 5) rfl), inr29 _ (List.mem_of_getElem? (i := 23) rfl)⟩
theorem hdX6_goesSaid : yX6_goesSaid.cls = RX6 ∧ yX6_goesSaid.cls ≠ "java/lang/invoke/MethodHandle" ∧ yX6_goesSaid.cls ≠ "java/lang/invoke/VarHandle" ∧ (parseMethodDescriptor yX6_goesSaid.desc).map (fun d => d.parameters.length) = some 3 := by decide +kernel
set_option maxHeartbeats 4000000 in
set_option maxRecDepth 100000 in
theorem kX6_goesSaid (l : Launch) (g : Gx) (sz : Nat) (a_m : Nat → Nat) (st : AI) (now : AI) (isKept : AI) (hearers : Int32) (draft : AI) (dHearers : Int32) (dWalls : Int32) (toldWinds : Int32) (tape : AI) (taped : Int32) (pos : Int32) (frm : Int32) (sort : Int32) (value : Int32) (fault : Int32) (wrongAt : Int32) (landed : AI) (landedIn : AI) (stepped : AI) (isThere : AI) (isAt : AI) (isNext : AI) (landSum : Int64) (heardSum : Int64) (allWays : Int64) (ways : AI) (drawn : AI) (lanes : AI) (sizes : AI) (cells : AI) (torn : Int32) (before : AI) (p1 : Int32) (p2 : Int32) (p3 : Int32) (now_o : AI) (landed_o : AI) (landedIn_o : AI) (stepped_o : AI) (hf : fX6_goesSaid p1 p2 p3 st now landed landedIn stepped = some (now_o, landed_o, landedIn_o, stepped_o)) : Met l yX6_goesSaid (cdX6_goesSaid :: wsL_law) rmX6_goesSaid (va_Pc [.ref (a_m 0), .int p1, .int p2, .int p3] (RWp g sz (wM g a_m st now isKept hearers draft dHearers dWalls toldWinds tape taped pos frm sort value fault wrongAt landed landedIn stepped isThere isAt isNext landSum heardSum allWays ways drawn lanes sizes cells torn before))) (va_Qv (fun _ : Unit => True) (fun _ => RWq g (va_A (wM g a_m st now isKept hearers draft dHearers dWalls toldWinds tape taped pos frm sort value fault wrongAt landed landedIn stepped isThere isAt isNext landSum heardSum allWays ways drawn lanes sizes cells torn before) sz) (wM g a_m st now_o isKept hearers draft dHearers dWalls toldWinds tape taped pos frm sort value fault wrongAt landed_o landedIn_o stepped_o isThere isAt isNext landSum heardSum allWays ways drawn lanes sizes cells torn before)) (va_A (wM g a_m st now isKept hearers draft dHearers dWalls toldWinds tape taped pos frm sort value fault wrongAt landed landedIn stepped isThere isAt isNext landSum heardSum allWays ways drawn lanes sizes cells torn before) sz)) 0 0 (va_A (wM g a_m st now isKept hearers draft dHearers dWalls toldWinds tape taped pos frm sort value fault wrongAt landed landedIn stepped isThere isAt isNext landSum heardSum allWays ways drawn lanes sizes cells torn before) sz) := by
  refine Met_rwv (cc := cX6_goesSaid) (maxL := 4) (by decide) rfl (Nat.le_of_ble_eq_true rfl) ?_
  intro P E Z Mi AR BE ME CO A Q C hK hA fin w ls hl
  have hl : lv_has ls 4 [(0, .ref (a_m 0)), (1, .int p1), (2, .int p2), (3, .int p3)] := hl
  unfold fX6_goesSaid at hf
  refine lv_aload_n C.1 C.2.1 (dk_at dkX6_goesSaid 0 rfl) rfl (lv_at hl 0 rfl) ?_
  obtain ⟨now_1, hq2, hf⟩ := bd1_at hf
  refine r_rwv (As := []) (rest := []) (wr := []) (ws' := wM g a_m st now_1 isKept hearers draft dHearers dWalls toldWinds tape taped pos frm sort value fault wrongAt landed landedIn stepped isThere isAt isNext landSum heardSum allWays ways drawn lanes sizes cells torn before) C (kX6_starts l g _ a_m st now isKept hearers draft dHearers dWalls toldWinds tape taped pos frm sort value fault wrongAt landed landedIn stepped isThere isAt isNext landSum heardSum allWays ways drawn lanes sizes cells torn before now_1 hq2) (cwV0 C (inr17 _ (List.mem_of_getElem? (i := 3) rfl)) mwX6_starts hdX6_starts ⟨Nat.le_of_ble_eq_true rfl, Nat.le_of_ble_eq_true rfl⟩) hK w hA [0, 1, 2, 3, 4, 5, 6, 7, 8, 9, 10, 11, 12, 13, 14, 15, 16, 17] [] [0, 1, 2, 3, 4, 5, 6, 7, 8, 9, 10, 11, 12, 13, 14, 15, 16, 17] (by decide) rfl rfl (by decide) (by decide) rfl (by decide) rfl rfl rfl hl.1 rfl (Nat.le_of_ble_eq_true rfl) ⟨Nat.zero_le _, Nat.zero_le _⟩ (dk_at dkX6_goesSaid 1 rfl) (fun H locs w => ?_)
  refine lv_aload_n C.1 C.2.1 (dk_at dkX6_goesSaid 2 rfl) rfl (lv_at hl 0 rfl) ?_
  refine lv_iload_n C.1 C.2.1 (dk_at dkX6_goesSaid 3 rfl) rfl (lv_at hl 1 rfl) ?_
  refine lv_iconst (v := 3) C.1 C.2.1 (dk_at dkX6_goesSaid 4 rfl) (by decide) ?_
  refine lv_iload_n C.1 C.2.1 (dk_at dkX6_goesSaid 5 rfl) rfl (lv_at hl 2 rfl) ?_
  obtain ⟨now_3, hq4, hf⟩ := bd1_at hf
  refine r_rwv (As := [.int p1, .int 3, .int p2]) (rest := []) (wr := []) (ws' := wM g a_m st now_3 isKept hearers draft dHearers dWalls toldWinds tape taped pos frm sort value fault wrongAt landed landedIn stepped isThere isAt isNext landSum heardSum allWays ways drawn lanes sizes cells torn before) C (kX6_becomesOf l g _ a_m st now_1 isKept hearers draft dHearers dWalls toldWinds tape taped pos frm sort value fault wrongAt landed landedIn stepped isThere isAt isNext landSum heardSum allWays ways drawn lanes sizes cells torn before p1 3 p2 now_3 hq4) (cwV0 C (inr30 _ (List.mem_of_getElem? (i := 0) rfl)) mwX6_becomesOf hdX6_becomesOf ⟨Nat.le_of_ble_eq_true rfl, Nat.le_of_ble_eq_true rfl⟩) hK w hA [0, 1, 2, 3, 4, 5, 6, 7, 8, 9, 10, 11, 12, 13, 14, 15, 16, 17] [] [0, 1, 2, 3, 4, 5, 6, 7, 8, 9, 10, 11, 12, 13, 14, 15, 16, 17] (by decide) rfl rfl (by decide) (by decide) rfl (by decide) rfl rfl rfl hl.1 rfl (Nat.le_of_ble_eq_true rfl) ⟨Nat.zero_le _, Nat.zero_le _⟩ (dk_at dkX6_goesSaid 6 rfl) (fun H locs w => ?_)
  refine lv_aload_n C.1 C.2.1 (dk_at dkX6_goesSaid 7 rfl) rfl (lv_at hl 0 rfl) ?_
  refine lv_iload_n C.1 C.2.1 (dk_at dkX6_goesSaid 8 rfl) rfl (lv_at hl 1 rfl) ?_
  refine lv_iconst (v := 2) C.1 C.2.1 (dk_at dkX6_goesSaid 9 rfl) (by decide) ?_
  refine lv_iload_n C.1 C.2.1 (dk_at dkX6_goesSaid 10 rfl) rfl (lv_at hl 3 rfl) ?_
  obtain ⟨now_5, hq6, hf⟩ := bd1_at hf
  refine r_rwv (As := [.int p1, .int 2, .int p3]) (rest := []) (wr := []) (ws' := wM g a_m st now_5 isKept hearers draft dHearers dWalls toldWinds tape taped pos frm sort value fault wrongAt landed landedIn stepped isThere isAt isNext landSum heardSum allWays ways drawn lanes sizes cells torn before) C (kX6_becomesOf l g _ a_m st now_3 isKept hearers draft dHearers dWalls toldWinds tape taped pos frm sort value fault wrongAt landed landedIn stepped isThere isAt isNext landSum heardSum allWays ways drawn lanes sizes cells torn before p1 2 p3 now_5 hq6) (cwV0 C (inr30 _ (List.mem_of_getElem? (i := 0) rfl)) mwX6_becomesOf hdX6_becomesOf ⟨Nat.le_of_ble_eq_true rfl, Nat.le_of_ble_eq_true rfl⟩) hK w hA [0, 1, 2, 3, 4, 5, 6, 7, 8, 9, 10, 11, 12, 13, 14, 15, 16, 17] [] [0, 1, 2, 3, 4, 5, 6, 7, 8, 9, 10, 11, 12, 13, 14, 15, 16, 17] (by decide) rfl rfl (by decide) (by decide) rfl (by decide) rfl rfl rfl hl.1 rfl (Nat.le_of_ble_eq_true rfl) ⟨Nat.zero_le _, Nat.zero_le _⟩ (dk_at dkX6_goesSaid 11 rfl) (fun H locs w => ?_)
  refine lv_aload_n C.1 C.2.1 (dk_at dkX6_goesSaid 12 rfl) rfl (lv_at hl 0 rfl) ?_
  obtain ⟨now_7, landed_8, landedIn_9, stepped_10, hq11, hf⟩ := bd4_at hf
  refine r_rwv (As := []) (rest := []) (wr := []) (ws' := wM g a_m st now_7 isKept hearers draft dHearers dWalls toldWinds tape taped pos frm sort value fault wrongAt landed_8 landedIn_9 stepped_10 isThere isAt isNext landSum heardSum allWays ways drawn lanes sizes cells torn before) C (kX6_dayGoes l g _ a_m st now_5 isKept hearers draft dHearers dWalls toldWinds tape taped pos frm sort value fault wrongAt landed landedIn stepped isThere isAt isNext landSum heardSum allWays ways drawn lanes sizes cells torn before now_7 landed_8 landedIn_9 stepped_10 hq11) (cwV0 C (inr25 _ (List.mem_of_getElem? (i := 9) rfl)) mwX6_dayGoes hdX6_dayGoes ⟨Nat.le_of_ble_eq_true rfl, Nat.le_of_ble_eq_true rfl⟩) hK w hA [0, 1, 2, 3, 4, 5, 6, 7, 8, 9, 10, 11, 12, 13, 14, 15, 16, 17] [] [0, 1, 2, 3, 4, 5, 6, 7, 8, 9, 10, 11, 12, 13, 14, 15, 16, 17] (by decide) rfl rfl (by decide) (by decide) rfl (by decide) rfl rfl rfl hl.1 rfl (Nat.le_of_ble_eq_true rfl) ⟨Nat.zero_le _, Nat.zero_le _⟩ (dk_at dkX6_goesSaid 13 rfl) (fun H locs w => ?_)
  cases hf
  exact fin _ _ _ _ (dk_at dkX6_goesSaid 14 rfl) w
-- X6.aim
abbrev tbX6_aim : List (Nat × Instr × Nat) := [(0, .aload_n 0, 1), (1, .iload_n 1, 1), (2, .invokevirtual 214, 3), (5, .ifCond .eq 10, 3), (8, .iload_n 2, 1), (9, .invokestatic 140, 3), (12, .ifCond .ne 5, 3), (15, .iconst (-1), 1), (16, .ireturn, 1), (17, .iconst 1, 1), (18, .istore_n 3, 1), (19, .iload_n 3, 1), (20, .bipush 9, 2), (22, .if_icmp .gt 50, 3), (25, .iconst 0, 1), (26, .istore 4, 2), (28, .iload 4, 2), (30, .iconst 4, 1), (31, .if_icmp .ge 35, 3), (34, .aload_n 0, 1), (35, .iload_n 1, 1), (36, .iload_n 3, 1), (37, .iload 4, 2), (39, .invokevirtual 259, 3), (42, .aload_n 0, 1), (43, .getfield 26, 3), (46, .iload_n 1, 1), (47, .iaload, 1), (48, .iload_n 2, 1), (49, .if_icmp .ne 11, 3), (52, .bipush 10, 2), (54, .iload_n 3, 1), (55, .imul, 1), (56, .iload 4, 2), (58, .iadd, 1), (59, .ireturn, 1), (60, .iinc 4 1, 3), (63, .goto (-35), 3), (66, .iinc 3 1, 3), (69, .goto (-50), 3), (72, .bipush (-4), 2), (74, .ireturn, 1)]
theorem dkX6_aim : dk cX6_aim tbX6_aim := dk_of (by decide +kernel)
abbrev cdX6_aim : Cond := Cond.code yX6_aim cX6_aim 5 (some .int)
abbrev rmX6_aim : Room := { frames := 5, cells := 0, slots := 0, locals := 120 }
theorem mwX6_aim : Cond.instanceMethod yX6_aim ∈ wsL_law ∧ Cond.selects RX6 yX6_aim yX6_aim ∈ wsL_law ∧ Cond.initialized RX6 ∈ wsL_law ∧ cdX6_aim ∈ wsL_law := ⟨inr29 _ (List.mem_of_getElem? (i := 17) rfl), inr29 _ (List.mem_of_getElem? (i := 18) rfl), inr1 _ (List.mem_of_getElem? (i := 5) rfl), inr29 _ (List.mem_of_getElem? (i := 19) rfl)⟩
theorem hdX6_aim : yX6_aim.cls = RX6 ∧ yX6_aim.cls ≠ "java/lang/invoke/MethodHandle" ∧ yX6_aim.cls ≠ "java/lang/invoke/VarHandle" ∧ (parseMethodDescriptor yX6_aim.desc).map (fun d => d.parameters.length) = some 2 := by decide +kernel
set_option maxHeartbeats 4000000 in
set_option maxRecDepth 100000 in
theorem kX6_aim (l : Launch) (g : Gx) (sz : Nat) (a_m : Nat → Nat) (st : AI) (now : AI) (isKept : AI) (hearers : Int32) (draft : AI) (dHearers : Int32) (dWalls : Int32) (toldWinds : Int32) (tape : AI) (taped : Int32) (pos : Int32) (frm : Int32) (sort : Int32) (value : Int32) (fault : Int32) (wrongAt : Int32) (landed : AI) (landedIn : AI) (stepped : AI) (isThere : AI) (isAt : AI) (isNext : AI) (landSum : Int64) (heardSum : Int64) (allWays : Int64) (ways : AI) (drawn : AI) (lanes : AI) (sizes : AI) (cells : AI) (torn : Int32) (before : AI) (p1 : Int32) (p2 : Int32) (res : Int32) (now_o : AI) (landed_o : AI) (landedIn_o : AI) (stepped_o : AI) (hf : fX6_aim p1 p2 st now landed landedIn stepped = some (res, now_o, landed_o, landedIn_o, stepped_o)) : Met l yX6_aim (cdX6_aim :: wsL_law) rmX6_aim (va_Pc [.ref (a_m 0), .int p1, .int p2] (RWp g sz (wM g a_m st now isKept hearers draft dHearers dWalls toldWinds tape taped pos frm sort value fault wrongAt landed landedIn stepped isThere isAt isNext landSum heardSum allWays ways drawn lanes sizes cells torn before))) (va_Qi (fun x (_ : Unit) => x = res) (fun _ => RWq g (va_A (wM g a_m st now isKept hearers draft dHearers dWalls toldWinds tape taped pos frm sort value fault wrongAt landed landedIn stepped isThere isAt isNext landSum heardSum allWays ways drawn lanes sizes cells torn before) sz) (wM g a_m st now_o isKept hearers draft dHearers dWalls toldWinds tape taped pos frm sort value fault wrongAt landed_o landedIn_o stepped_o isThere isAt isNext landSum heardSum allWays ways drawn lanes sizes cells torn before)) (va_A (wM g a_m st now isKept hearers draft dHearers dWalls toldWinds tape taped pos frm sort value fault wrongAt landed landedIn stepped isThere isAt isNext landSum heardSum allWays ways drawn lanes sizes cells torn before) sz)) 0 0 (va_A (wM g a_m st now isKept hearers draft dHearers dWalls toldWinds tape taped pos frm sort value fault wrongAt landed landedIn stepped isThere isAt isNext landSum heardSum allWays ways drawn lanes sizes cells torn before) sz) := by
  refine Met_rwi (cc := cX6_aim) (maxL := 5) (by decide) rfl (Nat.le_of_ble_eq_true rfl) ?_
  intro P E Z Mi AR BE ME CO A Q C hK hA fin w ls hl
  have hl : lv_has ls 5 [(0, .ref (a_m 0)), (1, .int p1), (2, .int p2)] := hl
  unfold fX6_aim at hf
  refine lv_aload_n C.1 C.2.1 (dk_at dkX6_aim 0 rfl) rfl (lv_at hl 0 rfl) ?_
  refine lv_iload_n C.1 C.2.1 (dk_at dkX6_aim 1 rfl) rfl (lv_at hl 1 rfl) ?_
  obtain ⟨r1, hq2, hf⟩ := bd1_at hf
  refine r_roV (As := [.int p1]) (rest := []) C (kX6_isSaying l g a_m st now isKept hearers draft dHearers dWalls toldWinds tape taped pos frm sort value fault wrongAt landed landedIn stepped isThere isAt isNext landSum heardSum allWays ways drawn lanes sizes cells torn before p1 r1 hq2) (cwV0 C (inr18 _ (List.mem_of_getElem? (i := 10) rfl)) mwX6_isSaying hdX6_isSaying ⟨Nat.le_of_ble_eq_true rfl, Nat.le_of_ble_eq_true rfl⟩) hK w.1 rfl rfl rfl hl.1 rfl (Nat.le_of_ble_eq_true rfl) ⟨Nat.zero_le _, Nat.zero_le _⟩ (dk_at dkX6_aim 2 rfl) ?_
  refine lv_if_eq (tgt := 15) C.1 C.2.1 (dk_at dkX6_aim 3 rfl) (by decide) (fun c3 => ?_) (fun c3 => ?_)
  · have hf := (if_pos c3).symm.trans hf
    refine lv_iconst (v := (-1)) C.1 C.2.1 (dk_at dkX6_aim 7 rfl) (by decide) ?_
    cases hf
    exact fin _ _ _ _ _ (dk_at dkX6_aim 8 rfl) rfl w
  · have hf := (if_neg c3).symm.trans hf
    refine lv_iload_n C.1 C.2.1 (dk_at dkX6_aim 4 rfl) rfl (lv_at hl 2 rfl) ?_
    obtain ⟨r4, hq5, hf⟩ := bd1_at hf
    refine r_st (As := [.int p2]) (rest := []) C (kX6_isCell l p2 r4 hq5) (cwS0 C (inr15 _ (List.mem_of_getElem? (i := 8) rfl)) mwX6_isCell hdX6_isCell ⟨Nat.le_of_ble_eq_true rfl, Nat.le_of_ble_eq_true rfl⟩) rfl hl.1 rfl (Nat.le_of_ble_eq_true rfl) ⟨Nat.zero_le _, Nat.zero_le _⟩ (dk_at dkX6_aim 5 rfl) ?_
    refine lv_if_ne (tgt := 17) C.1 C.2.1 (dk_at dkX6_aim 6 rfl) (by decide) (fun c6 => ?_) (fun c6 => ?_)
    · have hf := (if_neg c6).symm.trans hf
      refine lv_iconst (v := 1) C.1 C.2.1 (dk_at dkX6_aim 9 rfl) (by decide) ?_
      refine lv_istore_n (lv' := [(3, .int 1), (0, .ref (a_m 0)), (1, .int p1), (2, .int p2)]) C.1 C.2.1 (dk_at dkX6_aim 10 rfl) rfl hl (by decide) rfl (fun ls hl => ?_)
      have L12 : ∀ (K : Int32 → AI → AI → AI → AI → Option (Int32 × AI × AI × AI × AI)), (∀ (v7 : Int32) (now_8 : AI) (landed_9 : AI) (landedIn_10 : AI) (stepped_11 : AI) (H : Heap) (locs : List Loc) (ls : Array Slot), Wd g A Z.heap (wM g a_m st now_8 isKept hearers draft dHearers dWalls toldWinds tape taped pos frm sort value fault wrongAt landed_9 landedIn_10 stepped_11 isThere isAt isNext landSum heardSum allWays ways drawn lanes sizes cells torn before) H locs → lv_has ls 5 [] → K v7 now_8 landed_9 landedIn_10 stepped_11 = some (res, now_o, landed_o, landedIn_o, stepped_o) → W P l E rmX6_aim Z Mi AR BE ME CO H locs 0 0 Q (F0 Mi 72 ls [])) → ∀ (n : Nat), ∀ (v7 : Int32) (now_8 : AI) (landed_9 : AI) (landedIn_10 : AI) (stepped_11 : AI) (H : Heap) (locs : List Loc) (ls : Array Slot), Wd g A Z.heap (wM g a_m st now_8 isKept hearers draft dHearers dWalls toldWinds tape taped pos frm sort value fault wrongAt landed_9 landedIn_10 stepped_11 isThere isAt isNext landSum heardSum allWays ways drawn lanes sizes cells torn before) H locs → lv_has ls 5 [(3, .int v7), (0, .ref (a_m 0)), (1, .int p1), (2, .int p2)] → fX6_aim_L19 st p1 p2 K n v7 now_8 landed_9 landedIn_10 stepped_11 = some (res, now_o, landed_o, landedIn_o, stepped_o) → W P l E rmX6_aim Z Mi AR BE ME CO H locs 0 0 Q (F0 Mi 19 ls []) := by
        intro K hKe n
        induction n with
        | zero => intro v7 now_8 landed_9 landedIn_10 stepped_11 H locs ls w hl hf; cases hf
        | succ n ih =>
          intro v7 now_8 landed_9 landedIn_10 stepped_11 H locs ls w hl hf
          rw [fX6_aim_L19] at hf
          refine lv_iload_n C.1 C.2.1 (dk_at dkX6_aim 11 rfl) rfl (lv_at hl 0 rfl) ?_
          refine lv_bipush (v := 9) C.1 C.2.1 (dk_at dkX6_aim 12 rfl) (by decide) ?_
          refine lv_icmp_gt (tgt := 72) C.1 C.2.1 (dk_at dkX6_aim 13 rfl) (by decide) (fun c13 => ?_) (fun c13 => ?_)
          · have hf := (if_pos c13).symm.trans hf
            exact hKe v7 now_8 landed_9 landedIn_10 stepped_11 _ _ _ w (lv_sub hl [] rfl) hf
          · have hf := (if_neg c13).symm.trans hf
            refine lv_iconst (v := 0) C.1 C.2.1 (dk_at dkX6_aim 14 rfl) (by decide) ?_
            refine lv_istore (lv' := [(4, .int 0), (3, .int v7), (0, .ref (a_m 0)), (1, .int p1), (2, .int p2)]) C.1 C.2.1 (dk_at dkX6_aim 15 rfl) hl (by decide) rfl (fun ls hl => ?_)
            have L19 : ∀ (K : Int32 → AI → AI → AI → AI → Option (Int32 × AI × AI × AI × AI)), (∀ (v14 : Int32) (now_15 : AI) (landed_16 : AI) (landedIn_17 : AI) (stepped_18 : AI) (H : Heap) (locs : List Loc) (ls : Array Slot), Wd g A Z.heap (wM g a_m st now_15 isKept hearers draft dHearers dWalls toldWinds tape taped pos frm sort value fault wrongAt landed_16 landedIn_17 stepped_18 isThere isAt isNext landSum heardSum allWays ways drawn lanes sizes cells torn before) H locs → lv_has ls 5 [(3, .int v7), (0, .ref (a_m 0)), (1, .int p1), (2, .int p2)] → K v14 now_15 landed_16 landedIn_17 stepped_18 = some (res, now_o, landed_o, landedIn_o, stepped_o) → W P l E rmX6_aim Z Mi AR BE ME CO H locs 0 0 Q (F0 Mi 66 ls [])) → ∀ (n : Nat), ∀ (v14 : Int32) (now_15 : AI) (landed_16 : AI) (landedIn_17 : AI) (stepped_18 : AI) (H : Heap) (locs : List Loc) (ls : Array Slot), Wd g A Z.heap (wM g a_m st now_15 isKept hearers draft dHearers dWalls toldWinds tape taped pos frm sort value fault wrongAt landed_16 landedIn_17 stepped_18 isThere isAt isNext landSum heardSum allWays ways drawn lanes sizes cells torn before) H locs → lv_has ls 5 [(4, .int v14), (3, .int v7), (0, .ref (a_m 0)), (1, .int p1), (2, .int p2)] → fX6_aim_L28 st p1 p2 v7 K n v14 now_15 landed_16 landedIn_17 stepped_18 = some (res, now_o, landed_o, landedIn_o, stepped_o) → W P l E rmX6_aim Z Mi AR BE ME CO H locs 0 0 Q (F0 Mi 28 ls []) := by
              intro K hKe n
              induction n with
              | zero => intro v14 now_15 landed_16 landedIn_17 stepped_18 H locs ls w hl hf; cases hf
              | succ n ih =>
                intro v14 now_15 landed_16 landedIn_17 stepped_18 H locs ls w hl hf
                rw [fX6_aim_L28] at hf
                refine lv_iload C.1 C.2.1 (dk_at dkX6_aim 16 rfl) (lv_at hl 0 rfl) ?_
                refine lv_iconst (v := 4) C.1 C.2.1 (dk_at dkX6_aim 17 rfl) (by decide) ?_
                refine lv_icmp_ge (tgt := 66) C.1 C.2.1 (dk_at dkX6_aim 18 rfl) (by decide) (fun c20 => ?_) (fun c20 => ?_)
                · have hf := (if_pos c20).symm.trans hf
                  exact hKe v14 now_15 landed_16 landedIn_17 stepped_18 _ _ _ w (lv_sub hl [1, 2, 3, 4] rfl) hf
                · have hf := (if_neg c20).symm.trans hf
                  refine lv_aload_n C.1 C.2.1 (dk_at dkX6_aim 19 rfl) rfl (lv_at hl 2 rfl) ?_
                  refine lv_iload_n C.1 C.2.1 (dk_at dkX6_aim 20 rfl) rfl (lv_at hl 3 rfl) ?_
                  refine lv_iload_n C.1 C.2.1 (dk_at dkX6_aim 21 rfl) rfl (lv_at hl 1 rfl) ?_
                  refine lv_iload C.1 C.2.1 (dk_at dkX6_aim 22 rfl) (lv_at hl 0 rfl) ?_
                  obtain ⟨now_21, landed_22, landedIn_23, stepped_24, hq25, hf⟩ := bd4_at hf
                  refine r_rwv (As := [.int p1, .int v7, .int v14]) (rest := []) (wr := []) (ws' := wM g a_m st now_21 isKept hearers draft dHearers dWalls toldWinds tape taped pos frm sort value fault wrongAt landed_22 landedIn_23 stepped_24 isThere isAt isNext landSum heardSum allWays ways drawn lanes sizes cells torn before) C (kX6_goesSaid l g _ a_m st now_15 isKept hearers draft dHearers dWalls toldWinds tape taped pos frm sort value fault wrongAt landed_16 landedIn_17 stepped_18 isThere isAt isNext landSum heardSum allWays ways drawn lanes sizes cells torn before p1 v7 v14 now_21 landed_22 landedIn_23 stepped_24 hq25) (cwV0 C (inr29 _ (List.mem_of_getElem? (i := 20) rfl)) mwX6_goesSaid hdX6_goesSaid ⟨Nat.le_of_ble_eq_true rfl, Nat.le_of_ble_eq_true rfl⟩) hK w hA [0, 1, 2, 3, 4, 5, 6, 7, 8, 9, 10, 11, 12, 13, 14, 15, 16, 17] [] [0, 1, 2, 3, 4, 5, 6, 7, 8, 9, 10, 11, 12, 13, 14, 15, 16, 17] (by decide) rfl rfl (by decide) (by decide) rfl (by decide) rfl rfl rfl hl.1 rfl (Nat.le_of_ble_eq_true rfl) ⟨Nat.zero_le _, Nat.zero_le _⟩ (dk_at dkX6_aim 23 rfl) (fun H locs w => ?_)
                  refine lv_aload_n C.1 C.2.1 (dk_at dkX6_aim 24 rfl) rfl (lv_at hl 2 rfl) ?_
                  refine r_get (v := .ref (a_m 6)) C hK w.1 (fun w h => List.mem_cons_of_mem _ (inlX6 w h)) 0 rfl rfl 16 (by decide) (List.mem_cons_of_mem _ (inr4 _ (List.mem_of_getElem? (i := 9) rfl))) rfl (dk_at dkX6_aim 25 rfl) ?_
                  refine lv_iload_n C.1 C.2.1 (dk_at dkX6_aim 26 rfl) rfl (lv_at hl 3 rfl) ?_
                  obtain ⟨h26, hf⟩ := gd_at hf
                  refine r_iald (k := p1.toNatClampNeg) (f := landed_22) C hK w.1 6 rfl h26 rfl (dk_at dkX6_aim 27 rfl) ?_
                  refine lv_topi (fun x27 ex27 => ?_)
                  have hf := nm_at ex27 hf
                  refine lv_iload_n C.1 C.2.1 (dk_at dkX6_aim 28 rfl) rfl (lv_at hl 4 rfl) ?_
                  refine lv_icmp_ne (tgt := 60) C.1 C.2.1 (dk_at dkX6_aim 29 rfl) (by decide) (fun c28 => ?_) (fun c28 => ?_)
                  · have hf := (if_neg c28).symm.trans hf
                    obtain ⟨x29, ex29⟩ : ∃ z : Int32, z = v14 + 1 := ⟨_, rfl⟩
                    have hf := nm_at ex29 hf
                    refine lv_iinc (v := x29) (lv' := [(4, .int x29), (3, .int v7), (0, .ref (a_m 0)), (1, .int p1), (2, .int p2)]) C.1 C.2.1 (dk_at dkX6_aim 36 rfl) hl (k := 0) rfl (by rw [ex29]; rfl) (by decide) rfl (fun ls hl => ?_)
                    refine lv_goto (tgt := 28) C.1 C.2.1 (dk_at dkX6_aim 37 rfl) (by decide) ?_
                    exact ih x29 now_21 landed_22 landedIn_23 stepped_24 _ _ _ w (lv_sub hl [0, 1, 2, 3, 4] rfl) hf
                  · have hf := (if_pos c28).symm.trans hf
                    refine lv_bipush (v := 10) C.1 C.2.1 (dk_at dkX6_aim 30 rfl) (by decide) ?_
                    refine lv_iload_n C.1 C.2.1 (dk_at dkX6_aim 31 rfl) rfl (lv_at hl 1 rfl) ?_
                    refine lv_imul C.1 C.2.1 (dk_at dkX6_aim 32 rfl) ?_
                    refine lv_topi (fun x30 ex30 => ?_)
                    have hf := nm_at ex30 hf
                    refine lv_iload C.1 C.2.1 (dk_at dkX6_aim 33 rfl) (lv_at hl 0 rfl) ?_
                    refine lv_iadd C.1 C.2.1 (dk_at dkX6_aim 34 rfl) ?_
                    refine lv_topi (fun x31 ex31 => ?_)
                    have hf := nm_at ex31 hf
                    cases hf
                    exact fin _ _ _ _ _ (dk_at dkX6_aim 35 rfl) rfl w
            refine L19 _ ?_ 4096 0 now_8 landed_9 landedIn_10 stepped_11 _ _ _ w (lv_sub hl [0, 1, 2, 3, 4] rfl) hf
            clear hf
            intro v14 now_15 landed_16 landedIn_17 stepped_18 H locs ls w hl hf
            obtain ⟨x32, ex32⟩ : ∃ z : Int32, z = v7 + 1 := ⟨_, rfl⟩
            have hf := nm_at ex32 hf
            refine lv_iinc (v := x32) (lv' := [(3, .int x32), (0, .ref (a_m 0)), (1, .int p1), (2, .int p2)]) C.1 C.2.1 (dk_at dkX6_aim 38 rfl) hl (k := 0) rfl (by rw [ex32]; rfl) (by decide) rfl (fun ls hl => ?_)
            refine lv_goto (tgt := 19) C.1 C.2.1 (dk_at dkX6_aim 39 rfl) (by decide) ?_
            exact ih x32 now_15 landed_16 landedIn_17 stepped_18 _ _ _ w (lv_sub hl [0, 1, 2, 3] rfl) hf
      refine L12 _ ?_ 4096 1 now landed landedIn stepped _ _ _ w (lv_sub hl [0, 1, 2, 3] rfl) hf
      clear hf
      intro v7 now_8 landed_9 landedIn_10 stepped_11 H locs ls w hl hf
      refine lv_bipush (v := (-4)) C.1 C.2.1 (dk_at dkX6_aim 40 rfl) (by decide) ?_
      cases hf
      exact fin _ _ _ _ _ (dk_at dkX6_aim 41 rfl) rfl w
    · have hf := (if_pos c6).symm.trans hf
      refine lv_iconst (v := (-1)) C.1 C.2.1 (dk_at dkX6_aim 7 rfl) (by decide) ?_
      cases hf
      exact fin _ _ _ _ _ (dk_at dkX6_aim 8 rfl) rfl w
-- X6.reach
abbrev tbX6_reach : List (Nat × Instr × Nat) := [(0, .aload_n 0, 1), (1, .iload_n 1, 1), (2, .invokevirtual 214, 3), (5, .ifCond .ne 5, 3), (8, .iconst (-1), 1), (9, .ireturn, 1), (10, .iconst 0, 1), (11, .istore_n 2, 1), (12, .iconst 0, 1), (13, .istore_n 3, 1), (14, .iload_n 3, 1), (15, .bipush 80, 2), (17, .if_icmp .ge 16, 3), (20, .aload_n 0, 1), (21, .getfield 35, 3), (24, .iload_n 3, 1), (25, .iconst 0, 1), (26, .bastore, 1), (27, .iinc 3 1, 3), (30, .goto (-16), 3), (33, .iconst 1, 1), (34, .istore_n 3, 1), (35, .iload_n 3, 1), (36, .bipush 9, 2), (38, .if_icmp .gt 69, 3), (41, .iconst 0, 1), (42, .istore 4, 2), (44, .iload 4, 2), (46, .iconst 4, 1), (47, .if_icmp .ge 54, 3), (50, .aload_n 0, 1), (51, .iload_n 1, 1), (52, .iload_n 3, 1), (53, .iload 4, 2), (55, .invokevirtual 259, 3), (58, .iload_n 2, 1), (59, .aload_n 0, 1), (60, .getfield 35, 3), (63, .aload_n 0, 1), (64, .getfield 26, 3), (67, .iload_n 1, 1), (68, .iaload, 1), (69, .baload, 1), (70, .ifCond .ne 7, 3), (73, .iconst 1, 1), (74, .goto 4, 3), (77, .iconst 0, 1), (78, .invokestatic 207, 3), (81, .iadd, 1), (82, .istore_n 2, 1), (83, .aload_n 0, 1), (84, .getfield 35, 3), (87, .aload_n 0, 1), (88, .getfield 26, 3), (91, .iload_n 1, 1), (92, .iaload, 1), (93, .iconst 1, 1), (94, .bastore, 1), (95, .iinc 4 1, 3), (98, .goto (-54), 3), (101, .iinc 3 1, 3), (104, .goto (-69), 3), (107, .iload_n 2, 1), (108, .ireturn, 1)]
theorem dkX6_reach : dk cX6_reach tbX6_reach := dk_of (by decide +kernel)
abbrev cdX6_reach : Cond := Cond.code yX6_reach cX6_reach 5 (some .int)
abbrev rmX6_reach : Room := { frames := 5, cells := 0, slots := 0, locals := 120 }
theorem mwX6_reach : Cond.instanceMethod yX6_reach ∈ wsL_law ∧ Cond.selects RX6 yX6_reach yX6_reach ∈ wsL_law ∧ Cond.initialized RX6 ∈ wsL_law ∧ cdX6_reach ∈ wsL_law := ⟨inr30 _ (List.mem_of_getElem? (i := 9) rfl), inr30 _ (List.mem_of_getElem? (i := 10) rfl), inr1 _ (List.mem_of_getElem? (i := 5) rfl), inr30 _ (List.mem_of_getElem? (i := 11) rfl)⟩
theorem hdX6_reach : yX6_reach.cls = RX6 ∧ yX6_reach.cls ≠ "java/lang/invoke/MethodHandle" ∧ yX6_reach.cls ≠ "java/lang/invoke/VarHandle" ∧ (parseMethodDescriptor yX6_reach.desc).map (fun d => d.parameters.length) = some 1 := by decide +kernel
set_option maxHeartbeats 4000000 in
set_option maxRecDepth 100000 in
theorem kX6_reach (l : Launch) (g : Gx) (sz : Nat) (a_m : Nat → Nat) (st : AI) (now : AI) (isKept : AI) (hearers : Int32) (draft : AI) (dHearers : Int32) (dWalls : Int32) (toldWinds : Int32) (tape : AI) (taped : Int32) (pos : Int32) (frm : Int32) (sort : Int32) (value : Int32) (fault : Int32) (wrongAt : Int32) (landed : AI) (landedIn : AI) (stepped : AI) (isThere : AI) (isAt : AI) (isNext : AI) (landSum : Int64) (heardSum : Int64) (allWays : Int64) (ways : AI) (drawn : AI) (lanes : AI) (sizes : AI) (cells : AI) (torn : Int32) (before : AI) (p1 : Int32) (res : Int32) (now_o : AI) (landed_o : AI) (landedIn_o : AI) (stepped_o : AI) (isThere_o : AI) (hf : fX6_reach p1 st now landed landedIn stepped isThere = some (res, now_o, landed_o, landedIn_o, stepped_o, isThere_o)) : Met l yX6_reach (cdX6_reach :: wsL_law) rmX6_reach (va_Pc [.ref (a_m 0), .int p1] (RWp g sz (wM g a_m st now isKept hearers draft dHearers dWalls toldWinds tape taped pos frm sort value fault wrongAt landed landedIn stepped isThere isAt isNext landSum heardSum allWays ways drawn lanes sizes cells torn before))) (va_Qi (fun x (_ : Unit) => x = res) (fun _ => RWq g (va_A (wM g a_m st now isKept hearers draft dHearers dWalls toldWinds tape taped pos frm sort value fault wrongAt landed landedIn stepped isThere isAt isNext landSum heardSum allWays ways drawn lanes sizes cells torn before) sz) (wM g a_m st now_o isKept hearers draft dHearers dWalls toldWinds tape taped pos frm sort value fault wrongAt landed_o landedIn_o stepped_o isThere_o isAt isNext landSum heardSum allWays ways drawn lanes sizes cells torn before)) (va_A (wM g a_m st now isKept hearers draft dHearers dWalls toldWinds tape taped pos frm sort value fault wrongAt landed landedIn stepped isThere isAt isNext landSum heardSum allWays ways drawn lanes sizes cells torn before) sz)) 0 0 (va_A (wM g a_m st now isKept hearers draft dHearers dWalls toldWinds tape taped pos frm sort value fault wrongAt landed landedIn stepped isThere isAt isNext landSum heardSum allWays ways drawn lanes sizes cells torn before) sz) := by
  refine Met_rwi (cc := cX6_reach) (maxL := 5) (by decide) rfl (Nat.le_of_ble_eq_true rfl) ?_
  intro P E Z Mi AR BE ME CO A Q C hK hA fin w ls hl
  have hl : lv_has ls 5 [(0, .ref (a_m 0)), (1, .int p1)] := hl
  unfold fX6_reach at hf
  refine lv_aload_n C.1 C.2.1 (dk_at dkX6_reach 0 rfl) rfl (lv_at hl 0 rfl) ?_
  refine lv_iload_n C.1 C.2.1 (dk_at dkX6_reach 1 rfl) rfl (lv_at hl 1 rfl) ?_
  obtain ⟨r1, hq2, hf⟩ := bd1_at hf
  refine r_roV (As := [.int p1]) (rest := []) C (kX6_isSaying l g a_m st now isKept hearers draft dHearers dWalls toldWinds tape taped pos frm sort value fault wrongAt landed landedIn stepped isThere isAt isNext landSum heardSum allWays ways drawn lanes sizes cells torn before p1 r1 hq2) (cwV0 C (inr18 _ (List.mem_of_getElem? (i := 10) rfl)) mwX6_isSaying hdX6_isSaying ⟨Nat.le_of_ble_eq_true rfl, Nat.le_of_ble_eq_true rfl⟩) hK w.1 rfl rfl rfl hl.1 rfl (Nat.le_of_ble_eq_true rfl) ⟨Nat.zero_le _, Nat.zero_le _⟩ (dk_at dkX6_reach 2 rfl) ?_
  refine lv_if_ne (tgt := 10) C.1 C.2.1 (dk_at dkX6_reach 3 rfl) (by decide) (fun c3 => ?_) (fun c3 => ?_)
  · have hf := (if_neg c3).symm.trans hf
    refine lv_iconst (v := 0) C.1 C.2.1 (dk_at dkX6_reach 6 rfl) (by decide) ?_
    refine lv_istore_n (lv' := [(2, .int 0), (0, .ref (a_m 0)), (1, .int p1)]) C.1 C.2.1 (dk_at dkX6_reach 7 rfl) rfl hl (by decide) rfl (fun ls hl => ?_)
    refine lv_iconst (v := 0) C.1 C.2.1 (dk_at dkX6_reach 8 rfl) (by decide) ?_
    refine lv_istore_n (lv' := [(3, .int 0), (2, .int 0), (0, .ref (a_m 0)), (1, .int p1)]) C.1 C.2.1 (dk_at dkX6_reach 9 rfl) rfl hl (by decide) rfl (fun ls hl => ?_)
    have L6 : ∀ (K : Int32 → AI → Option (Int32 × AI × AI × AI × AI × AI)), (∀ (v4 : Int32) (isThere_5 : AI) (H : Heap) (locs : List Loc) (ls : Array Slot), Wd g A Z.heap (wM g a_m st now isKept hearers draft dHearers dWalls toldWinds tape taped pos frm sort value fault wrongAt landed landedIn stepped isThere_5 isAt isNext landSum heardSum allWays ways drawn lanes sizes cells torn before) H locs → lv_has ls 5 [(2, .int 0), (0, .ref (a_m 0)), (1, .int p1)] → K v4 isThere_5 = some (res, now_o, landed_o, landedIn_o, stepped_o, isThere_o) → W P l E rmX6_reach Z Mi AR BE ME CO H locs 0 0 Q (F0 Mi 33 ls [])) → ∀ (n : Nat), ∀ (v4 : Int32) (isThere_5 : AI) (H : Heap) (locs : List Loc) (ls : Array Slot), Wd g A Z.heap (wM g a_m st now isKept hearers draft dHearers dWalls toldWinds tape taped pos frm sort value fault wrongAt landed landedIn stepped isThere_5 isAt isNext landSum heardSum allWays ways drawn lanes sizes cells torn before) H locs → lv_has ls 5 [(3, .int v4), (2, .int 0), (0, .ref (a_m 0)), (1, .int p1)] → fX6_reach_L14 K n v4 isThere_5 = some (res, now_o, landed_o, landedIn_o, stepped_o, isThere_o) → W P l E rmX6_reach Z Mi AR BE ME CO H locs 0 0 Q (F0 Mi 14 ls []) := by
      intro K hKe n
      induction n with
      | zero => intro v4 isThere_5 H locs ls w hl hf; cases hf
      | succ n ih =>
        intro v4 isThere_5 H locs ls w hl hf
        rw [fX6_reach_L14] at hf
        refine lv_iload_n C.1 C.2.1 (dk_at dkX6_reach 10 rfl) rfl (lv_at hl 0 rfl) ?_
        refine lv_bipush (v := 80) C.1 C.2.1 (dk_at dkX6_reach 11 rfl) (by decide) ?_
        refine lv_icmp_ge (tgt := 33) C.1 C.2.1 (dk_at dkX6_reach 12 rfl) (by decide) (fun c7 => ?_) (fun c7 => ?_)
        · have hf := (if_pos c7).symm.trans hf
          exact hKe v4 isThere_5 _ _ _ w (lv_sub hl [1, 2, 3] rfl) hf
        · have hf := (if_neg c7).symm.trans hf
          refine lv_aload_n C.1 C.2.1 (dk_at dkX6_reach 13 rfl) rfl (lv_at hl 2 rfl) ?_
          refine r_get (v := .ref (a_m 9)) C hK w.1 (fun w h => List.mem_cons_of_mem _ (inlX6 w h)) 0 rfl rfl 19 (by decide) (List.mem_cons_of_mem _ (inr4 _ (List.mem_of_getElem? (i := 12) rfl))) rfl (dk_at dkX6_reach 14 rfl) ?_
          refine lv_iload_n C.1 C.2.1 (dk_at dkX6_reach 15 rfl) rfl (lv_at hl 0 rfl) ?_
          refine lv_iconst (v := 0) C.1 C.2.1 (dk_at dkX6_reach 16 rfl) (by decide) ?_
          obtain ⟨h8, hf⟩ := gd_at hf
          refine r_zast (k := v4.toNatClampNeg) (f := isThere_5) C hK w 9 rfl h8 rfl (dk_at dkX6_reach 17 rfl) (fun H locs w => ?_)
          obtain ⟨isThere_9, eisThere_9⟩ : ∃ z : AI, z = upd isThere_5 v4.toNatClampNeg (vp_nar .boolean 0) := ⟨_, rfl⟩
          have hf := nm_at eisThere_9 hf
          have w : Wd g A Z.heap (wM g a_m st now isKept hearers draft dHearers dWalls toldWinds tape taped pos frm sort value fault wrongAt landed landedIn stepped isThere_9 isAt isNext landSum heardSum allWays ways drawn lanes sizes cells torn before) H locs := by rw [eisThere_9]; exact w
          obtain ⟨x10, ex10⟩ : ∃ z : Int32, z = v4 + 1 := ⟨_, rfl⟩
          have hf := nm_at ex10 hf
          refine lv_iinc (v := x10) (lv' := [(3, .int x10), (2, .int 0), (0, .ref (a_m 0)), (1, .int p1)]) C.1 C.2.1 (dk_at dkX6_reach 18 rfl) hl (k := 0) rfl (by rw [ex10]; rfl) (by decide) rfl (fun ls hl => ?_)
          refine lv_goto (tgt := 14) C.1 C.2.1 (dk_at dkX6_reach 19 rfl) (by decide) ?_
          exact ih x10 isThere_9 _ _ _ w (lv_sub hl [0, 1, 2, 3] rfl) hf
    refine L6 _ ?_ 4096 0 isThere _ _ _ w (lv_sub hl [0, 1, 2, 3] rfl) hf
    clear hf
    intro v4 isThere_5 H locs ls w hl hf
    refine lv_iconst (v := 1) C.1 C.2.1 (dk_at dkX6_reach 20 rfl) (by decide) ?_
    refine lv_istore_n (lv' := [(3, .int 1), (2, .int 0), (0, .ref (a_m 0)), (1, .int p1)]) C.1 C.2.1 (dk_at dkX6_reach 21 rfl) rfl hl (by decide) rfl (fun ls hl => ?_)
    have L18 : ∀ (K : Int32 → Int32 → AI → AI → AI → AI → AI → Option (Int32 × AI × AI × AI × AI × AI)), (∀ (v11 : Int32) (v12 : Int32) (now_13 : AI) (landed_14 : AI) (landedIn_15 : AI) (stepped_16 : AI) (isThere_17 : AI) (H : Heap) (locs : List Loc) (ls : Array Slot), Wd g A Z.heap (wM g a_m st now_13 isKept hearers draft dHearers dWalls toldWinds tape taped pos frm sort value fault wrongAt landed_14 landedIn_15 stepped_16 isThere_17 isAt isNext landSum heardSum allWays ways drawn lanes sizes cells torn before) H locs → lv_has ls 5 [(2, .int v12)] → K v11 v12 now_13 landed_14 landedIn_15 stepped_16 isThere_17 = some (res, now_o, landed_o, landedIn_o, stepped_o, isThere_o) → W P l E rmX6_reach Z Mi AR BE ME CO H locs 0 0 Q (F0 Mi 107 ls [])) → ∀ (n : Nat), ∀ (v11 : Int32) (v12 : Int32) (now_13 : AI) (landed_14 : AI) (landedIn_15 : AI) (stepped_16 : AI) (isThere_17 : AI) (H : Heap) (locs : List Loc) (ls : Array Slot), Wd g A Z.heap (wM g a_m st now_13 isKept hearers draft dHearers dWalls toldWinds tape taped pos frm sort value fault wrongAt landed_14 landedIn_15 stepped_16 isThere_17 isAt isNext landSum heardSum allWays ways drawn lanes sizes cells torn before) H locs → lv_has ls 5 [(3, .int v11), (2, .int v12), (0, .ref (a_m 0)), (1, .int p1)] → fX6_reach_L35 st p1 K n v11 v12 now_13 landed_14 landedIn_15 stepped_16 isThere_17 = some (res, now_o, landed_o, landedIn_o, stepped_o, isThere_o) → W P l E rmX6_reach Z Mi AR BE ME CO H locs 0 0 Q (F0 Mi 35 ls []) := by
      intro K hKe n
      induction n with
      | zero => intro v11 v12 now_13 landed_14 landedIn_15 stepped_16 isThere_17 H locs ls w hl hf; cases hf
      | succ n ih =>
        intro v11 v12 now_13 landed_14 landedIn_15 stepped_16 isThere_17 H locs ls w hl hf
        rw [fX6_reach_L35] at hf
        refine lv_iload_n C.1 C.2.1 (dk_at dkX6_reach 22 rfl) rfl (lv_at hl 0 rfl) ?_
        refine lv_bipush (v := 9) C.1 C.2.1 (dk_at dkX6_reach 23 rfl) (by decide) ?_
        refine lv_icmp_gt (tgt := 107) C.1 C.2.1 (dk_at dkX6_reach 24 rfl) (by decide) (fun c19 => ?_) (fun c19 => ?_)
        · have hf := (if_pos c19).symm.trans hf
          exact hKe v11 v12 now_13 landed_14 landedIn_15 stepped_16 isThere_17 _ _ _ w (lv_sub hl [1] rfl) hf
        · have hf := (if_neg c19).symm.trans hf
          refine lv_iconst (v := 0) C.1 C.2.1 (dk_at dkX6_reach 25 rfl) (by decide) ?_
          refine lv_istore (lv' := [(4, .int 0), (3, .int v11), (2, .int v12), (0, .ref (a_m 0)), (1, .int p1)]) C.1 C.2.1 (dk_at dkX6_reach 26 rfl) hl (by decide) rfl (fun ls hl => ?_)
          have L27 : ∀ (K : Int32 → Int32 → AI → AI → AI → AI → AI → Option (Int32 × AI × AI × AI × AI × AI)), (∀ (v20 : Int32) (v21 : Int32) (now_22 : AI) (landed_23 : AI) (landedIn_24 : AI) (stepped_25 : AI) (isThere_26 : AI) (H : Heap) (locs : List Loc) (ls : Array Slot), Wd g A Z.heap (wM g a_m st now_22 isKept hearers draft dHearers dWalls toldWinds tape taped pos frm sort value fault wrongAt landed_23 landedIn_24 stepped_25 isThere_26 isAt isNext landSum heardSum allWays ways drawn lanes sizes cells torn before) H locs → lv_has ls 5 [(3, .int v11), (2, .int v21), (0, .ref (a_m 0)), (1, .int p1)] → K v20 v21 now_22 landed_23 landedIn_24 stepped_25 isThere_26 = some (res, now_o, landed_o, landedIn_o, stepped_o, isThere_o) → W P l E rmX6_reach Z Mi AR BE ME CO H locs 0 0 Q (F0 Mi 101 ls [])) → ∀ (n : Nat), ∀ (v20 : Int32) (v21 : Int32) (now_22 : AI) (landed_23 : AI) (landedIn_24 : AI) (stepped_25 : AI) (isThere_26 : AI) (H : Heap) (locs : List Loc) (ls : Array Slot), Wd g A Z.heap (wM g a_m st now_22 isKept hearers draft dHearers dWalls toldWinds tape taped pos frm sort value fault wrongAt landed_23 landedIn_24 stepped_25 isThere_26 isAt isNext landSum heardSum allWays ways drawn lanes sizes cells torn before) H locs → lv_has ls 5 [(4, .int v20), (3, .int v11), (2, .int v21), (0, .ref (a_m 0)), (1, .int p1)] → fX6_reach_L44 st p1 v11 K n v20 v21 now_22 landed_23 landedIn_24 stepped_25 isThere_26 = some (res, now_o, landed_o, landedIn_o, stepped_o, isThere_o) → W P l E rmX6_reach Z Mi AR BE ME CO H locs 0 0 Q (F0 Mi 44 ls []) := by
            intro K hKe n
            induction n with
            | zero => intro v20 v21 now_22 landed_23 landedIn_24 stepped_25 isThere_26 H locs ls w hl hf; cases hf
            | succ n ih =>
              intro v20 v21 now_22 landed_23 landedIn_24 stepped_25 isThere_26 H locs ls w hl hf
              rw [fX6_reach_L44] at hf
              refine lv_iload C.1 C.2.1 (dk_at dkX6_reach 27 rfl) (lv_at hl 0 rfl) ?_
              refine lv_iconst (v := 4) C.1 C.2.1 (dk_at dkX6_reach 28 rfl) (by decide) ?_
              refine lv_icmp_ge (tgt := 101) C.1 C.2.1 (dk_at dkX6_reach 29 rfl) (by decide) (fun c28 => ?_) (fun c28 => ?_)
              · have hf := (if_pos c28).symm.trans hf
                exact hKe v20 v21 now_22 landed_23 landedIn_24 stepped_25 isThere_26 _ _ _ w (lv_sub hl [1, 2, 3, 4] rfl) hf
              · have hf := (if_neg c28).symm.trans hf
                refine lv_aload_n C.1 C.2.1 (dk_at dkX6_reach 30 rfl) rfl (lv_at hl 3 rfl) ?_
                refine lv_iload_n C.1 C.2.1 (dk_at dkX6_reach 31 rfl) rfl (lv_at hl 4 rfl) ?_
                refine lv_iload_n C.1 C.2.1 (dk_at dkX6_reach 32 rfl) rfl (lv_at hl 1 rfl) ?_
                refine lv_iload C.1 C.2.1 (dk_at dkX6_reach 33 rfl) (lv_at hl 0 rfl) ?_
                obtain ⟨now_29, landed_30, landedIn_31, stepped_32, hq33, hf⟩ := bd4_at hf
                refine r_rwv (As := [.int p1, .int v11, .int v20]) (rest := []) (wr := []) (ws' := wM g a_m st now_29 isKept hearers draft dHearers dWalls toldWinds tape taped pos frm sort value fault wrongAt landed_30 landedIn_31 stepped_32 isThere_26 isAt isNext landSum heardSum allWays ways drawn lanes sizes cells torn before) C (kX6_goesSaid l g _ a_m st now_22 isKept hearers draft dHearers dWalls toldWinds tape taped pos frm sort value fault wrongAt landed_23 landedIn_24 stepped_25 isThere_26 isAt isNext landSum heardSum allWays ways drawn lanes sizes cells torn before p1 v11 v20 now_29 landed_30 landedIn_31 stepped_32 hq33) (cwV0 C (inr29 _ (List.mem_of_getElem? (i := 20) rfl)) mwX6_goesSaid hdX6_goesSaid ⟨Nat.le_of_ble_eq_true rfl, Nat.le_of_ble_eq_true rfl⟩) hK w hA [0, 1, 2, 3, 4, 5, 6, 7, 8, 9, 10, 11, 12, 13, 14, 15, 16, 17] [] [0, 1, 2, 3, 4, 5, 6, 7, 8, 9, 10, 11, 12, 13, 14, 15, 16, 17] (by decide) rfl rfl (by decide) (by decide) rfl (by decide) rfl rfl rfl hl.1 rfl (Nat.le_of_ble_eq_true rfl) ⟨Nat.zero_le _, Nat.zero_le _⟩ (dk_at dkX6_reach 34 rfl) (fun H locs w => ?_)
                refine lv_iload_n C.1 C.2.1 (dk_at dkX6_reach 35 rfl) rfl (lv_at hl 2 rfl) ?_
                refine lv_aload_n C.1 C.2.1 (dk_at dkX6_reach 36 rfl) rfl (lv_at hl 3 rfl) ?_
                refine r_get (v := .ref (a_m 9)) C hK w.1 (fun w h => List.mem_cons_of_mem _ (inlX6 w h)) 0 rfl rfl 19 (by decide) (List.mem_cons_of_mem _ (inr4 _ (List.mem_of_getElem? (i := 12) rfl))) rfl (dk_at dkX6_reach 37 rfl) ?_
                refine lv_aload_n C.1 C.2.1 (dk_at dkX6_reach 38 rfl) rfl (lv_at hl 3 rfl) ?_
                refine r_get (v := .ref (a_m 6)) C hK w.1 (fun w h => List.mem_cons_of_mem _ (inlX6 w h)) 0 rfl rfl 16 (by decide) (List.mem_cons_of_mem _ (inr4 _ (List.mem_of_getElem? (i := 9) rfl))) rfl (dk_at dkX6_reach 39 rfl) ?_
                refine lv_iload_n C.1 C.2.1 (dk_at dkX6_reach 40 rfl) rfl (lv_at hl 4 rfl) ?_
                obtain ⟨h34, hf⟩ := gd_at hf
                refine r_iald (k := p1.toNatClampNeg) (f := landed_30) C hK w.1 6 rfl h34 rfl (dk_at dkX6_reach 41 rfl) ?_
                refine lv_topi (fun x35 ex35 => ?_)
                have hf := nm_at ex35 hf
                obtain ⟨h36, hf⟩ := gd_at hf
                refine r_zald (k := x35.toNatClampNeg) (f := isThere_26) C hK w.1 9 rfl h36 rfl (dk_at dkX6_reach 42 rfl) ?_
                obtain ⟨y37, hq38, hf⟩ := bd1_at hf
                have J39 : ∀ (H : Heap) (locs : List Loc) (ls : Array Slot), Wd g A Z.heap (wM g a_m st now_29 isKept hearers draft dHearers dWalls toldWinds tape taped pos frm sort value fault wrongAt landed_30 landedIn_31 stepped_32 isThere_26 isAt isNext landSum heardSum allWays ways drawn lanes sizes cells torn before) H locs → lv_has ls 5 [(4, .int v20), (3, .int v11), (0, .ref (a_m 0)), (1, .int p1)] → W P l E rmX6_reach Z Mi AR BE ME CO H locs 0 0 Q (F0 Mi 78 ls [.int y37, .int v21]) := by
                  intro H locs ls w hl
                  obtain ⟨r40, hq41, hf⟩ := bd1_at hf
                  refine r_st (As := [.int y37]) (rest := [.int v21]) C (kX6_flag l y37 r40 hq41) (cwS0 C (inr17 _ (List.mem_of_getElem? (i := 7) rfl)) mwX6_flag hdX6_flag ⟨Nat.le_of_ble_eq_true rfl, Nat.le_of_ble_eq_true rfl⟩) rfl hl.1 rfl (Nat.le_of_ble_eq_true rfl) ⟨Nat.zero_le _, Nat.zero_le _⟩ (dk_at dkX6_reach 47 rfl) ?_
                  refine lv_iadd C.1 C.2.1 (dk_at dkX6_reach 48 rfl) ?_
                  refine lv_topi (fun x42 ex42 => ?_)
                  have hf := nm_at ex42 hf
                  refine lv_istore_n (lv' := [(2, .int x42), (4, .int v20), (3, .int v11), (0, .ref (a_m 0)), (1, .int p1)]) C.1 C.2.1 (dk_at dkX6_reach 49 rfl) rfl hl (by decide) rfl (fun ls hl => ?_)
                  refine lv_aload_n C.1 C.2.1 (dk_at dkX6_reach 50 rfl) rfl (lv_at hl 3 rfl) ?_
                  refine r_get (v := .ref (a_m 9)) C hK w.1 (fun w h => List.mem_cons_of_mem _ (inlX6 w h)) 0 rfl rfl 19 (by decide) (List.mem_cons_of_mem _ (inr4 _ (List.mem_of_getElem? (i := 12) rfl))) rfl (dk_at dkX6_reach 51 rfl) ?_
                  refine lv_aload_n C.1 C.2.1 (dk_at dkX6_reach 52 rfl) rfl (lv_at hl 3 rfl) ?_
                  refine r_get (v := .ref (a_m 6)) C hK w.1 (fun w h => List.mem_cons_of_mem _ (inlX6 w h)) 0 rfl rfl 16 (by decide) (List.mem_cons_of_mem _ (inr4 _ (List.mem_of_getElem? (i := 9) rfl))) rfl (dk_at dkX6_reach 53 rfl) ?_
                  refine lv_iload_n C.1 C.2.1 (dk_at dkX6_reach 54 rfl) rfl (lv_at hl 4 rfl) ?_
                  obtain ⟨h43, hf⟩ := gd_at hf
                  refine r_iald (k := p1.toNatClampNeg) (f := landed_30) C hK w.1 6 rfl h43 rfl (dk_at dkX6_reach 55 rfl) ?_
                  refine lv_topi (fun x44 ex44 => ?_)
                  have hf := nm_at ex44 hf
                  refine lv_iconst (v := 1) C.1 C.2.1 (dk_at dkX6_reach 56 rfl) (by decide) ?_
                  obtain ⟨h45, hf⟩ := gd_at hf
                  refine r_zast (k := x44.toNatClampNeg) (f := isThere_26) C hK w 9 rfl h45 rfl (dk_at dkX6_reach 57 rfl) (fun H locs w => ?_)
                  obtain ⟨isThere_46, eisThere_46⟩ : ∃ z : AI, z = upd isThere_26 x44.toNatClampNeg (vp_nar .boolean 1) := ⟨_, rfl⟩
                  have hf := nm_at eisThere_46 hf
                  have w : Wd g A Z.heap (wM g a_m st now_29 isKept hearers draft dHearers dWalls toldWinds tape taped pos frm sort value fault wrongAt landed_30 landedIn_31 stepped_32 isThere_46 isAt isNext landSum heardSum allWays ways drawn lanes sizes cells torn before) H locs := by rw [eisThere_46]; exact w
                  obtain ⟨x47, ex47⟩ : ∃ z : Int32, z = v20 + 1 := ⟨_, rfl⟩
                  have hf := nm_at ex47 hf
                  refine lv_iinc (v := x47) (lv' := [(4, .int x47), (2, .int x42), (3, .int v11), (0, .ref (a_m 0)), (1, .int p1)]) C.1 C.2.1 (dk_at dkX6_reach 58 rfl) hl (k := 1) rfl (by rw [ex47]; rfl) (by decide) rfl (fun ls hl => ?_)
                  refine lv_goto (tgt := 44) C.1 C.2.1 (dk_at dkX6_reach 59 rfl) (by decide) ?_
                  exact ih x47 x42 now_29 landed_30 landedIn_31 stepped_32 isThere_46 _ _ _ w (lv_sub hl [0, 2, 1, 3, 4] rfl) hf
                clear hf
                have hf := hq38
                refine lv_if_ne (tgt := 77) C.1 C.2.1 (dk_at dkX6_reach 43 rfl) (by decide) (fun c48 => ?_) (fun c48 => ?_)
                · have hf := (if_neg c48).symm.trans hf
                  refine lv_iconst (v := 0) C.1 C.2.1 (dk_at dkX6_reach 46 rfl) (by decide) ?_
                  cases hf
                  exact J39 _ _ _ w (lv_sub hl [0, 1, 3, 4] rfl)
                · have hf := (if_pos c48).symm.trans hf
                  refine lv_iconst (v := 1) C.1 C.2.1 (dk_at dkX6_reach 44 rfl) (by decide) ?_
                  refine lv_goto (tgt := 78) C.1 C.2.1 (dk_at dkX6_reach 45 rfl) (by decide) ?_
                  cases hf
                  exact J39 _ _ _ w (lv_sub hl [0, 1, 3, 4] rfl)
          refine L27 _ ?_ 4096 0 v12 now_13 landed_14 landedIn_15 stepped_16 isThere_17 _ _ _ w (lv_sub hl [0, 1, 2, 3, 4] rfl) hf
          clear hf
          intro v20 v21 now_22 landed_23 landedIn_24 stepped_25 isThere_26 H locs ls w hl hf
          obtain ⟨x49, ex49⟩ : ∃ z : Int32, z = v11 + 1 := ⟨_, rfl⟩
          have hf := nm_at ex49 hf
          refine lv_iinc (v := x49) (lv' := [(3, .int x49), (2, .int v21), (0, .ref (a_m 0)), (1, .int p1)]) C.1 C.2.1 (dk_at dkX6_reach 60 rfl) hl (k := 0) rfl (by rw [ex49]; rfl) (by decide) rfl (fun ls hl => ?_)
          refine lv_goto (tgt := 35) C.1 C.2.1 (dk_at dkX6_reach 61 rfl) (by decide) ?_
          exact ih x49 v21 now_22 landed_23 landedIn_24 stepped_25 isThere_26 _ _ _ w (lv_sub hl [0, 1, 2, 3] rfl) hf
    refine L18 _ ?_ 4096 1 0 now landed landedIn stepped isThere_5 _ _ _ w (lv_sub hl [0, 1, 2, 3] rfl) hf
    clear hf
    intro v11 v12 now_13 landed_14 landedIn_15 stepped_16 isThere_17 H locs ls w hl hf
    refine lv_iload_n C.1 C.2.1 (dk_at dkX6_reach 62 rfl) rfl (lv_at hl 0 rfl) ?_
    cases hf
    exact fin _ _ _ _ _ (dk_at dkX6_reach 63 rfl) rfl w
  · have hf := (if_pos c3).symm.trans hf
    refine lv_iconst (v := (-1)) C.1 C.2.1 (dk_at dkX6_reach 4 rfl) (by decide) ?_
    cases hf
    exact fin _ _ _ _ _ (dk_at dkX6_reach 5 rfl) rfl w
-- X6.screen
abbrev tbX6_screen : List (Nat × Instr × Nat) := [(0, .iload_n 1, 1), (1, .invokestatic 140, 3), (4, .ifCond .ne 5, 3), (7, .iconst (-1), 1), (8, .ireturn, 1), (9, .aload_n 0, 1), (10, .invokevirtual 201, 3), (13, .aload_n 0, 1), (14, .invokevirtual 195, 3), (17, .bipush 12, 2), (19, .if_icmp .ne 6, 3), (22, .bipush (-3), 2), (24, .ireturn, 1), (25, .aload_n 0, 1), (26, .invokevirtual 204, 3), (29, .aload_n 0, 1), (30, .iload_n 1, 1), (31, .invokevirtual 240, 3), (34, .ifCond .ne 6, 3), (37, .bipush (-4), 2), (39, .ireturn, 1), (40, .iconst 0, 1), (41, .istore_n 2, 1), (42, .iload_n 2, 1), (43, .bipush 64, 2), (45, .if_icmp .ge 58, 3), (48, .iload_n 2, 1), (49, .invokestatic 249, 3), (52, .istore_n 3, 1), (53, .aload_n 0, 1), (54, .invokevirtual 201, 3), (57, .aload_n 0, 1), (58, .iload_n 3, 1), (59, .invokevirtual 192, 3), (62, .ifCond .ne 35, 3), (65, .aload_n 0, 1), (66, .getfield 13, 3), (69, .iload_n 3, 1), (70, .bipush 10, 2), (72, .idiv, 1), (73, .dup2, 1), (74, .iaload, 1), (75, .iconst 1, 1), (76, .iload_n 3, 1), (77, .bipush 10, 2), (79, .irem, 1), (80, .ishl, 1), (81, .ior, 1), (82, .iastore, 1), (83, .aload_n 0, 1), (84, .invokevirtual 204, 3), (87, .aload_n 0, 1), (88, .iload_n 1, 1), (89, .invokevirtual 240, 3), (92, .ifCond .ne 5, 3), (95, .iload_n 3, 1), (96, .ireturn, 1), (97, .iinc 2 1, 3), (100, .goto (-58), 3), (103, .bipush (-4), 2), (105, .ireturn, 1)]
theorem dkX6_screen : dk cX6_screen tbX6_screen := dk_of (by decide +kernel)
abbrev cdX6_screen : Cond := Cond.code yX6_screen cX6_screen 4 (some .int)
abbrev rmX6_screen : Room := { frames := 4, cells := 0, slots := 0, locals := 97 }
theorem mwX6_screen : Cond.instanceMethod yX6_screen ∈ wsL_law ∧ Cond.selects RX6 yX6_screen yX6_screen ∈ wsL_law ∧ Cond.initialized RX6 ∈ wsL_law ∧ cdX6_screen ∈ wsL_law := ⟨inr30 _ (List.mem_of_getElem? (i := 17) rfl), inr30 _ (List.mem_of_getElem? (i := 18) rfl), inr1 _ (List.mem_of_getElem? (i := 5) rfl), inr30 _ (List.mem_of_getElem? (i := 19) rfl)⟩
theorem hdX6_screen : yX6_screen.cls = RX6 ∧ yX6_screen.cls ≠ "java/lang/invoke/MethodHandle" ∧ yX6_screen.cls ≠ "java/lang/invoke/VarHandle" ∧ (parseMethodDescriptor yX6_screen.desc).map (fun d => d.parameters.length) = some 1 := by decide +kernel
set_option maxHeartbeats 4000000 in
set_option maxRecDepth 100000 in
theorem kX6_screen (l : Launch) (g : Gx) (sz : Nat) (a_m : Nat → Nat) (st : AI) (now : AI) (isKept : AI) (hearers : Int32) (draft : AI) (dHearers : Int32) (dWalls : Int32) (toldWinds : Int32) (tape : AI) (taped : Int32) (pos : Int32) (frm : Int32) (sort : Int32) (value : Int32) (fault : Int32) (wrongAt : Int32) (landed : AI) (landedIn : AI) (stepped : AI) (isThere : AI) (isAt : AI) (isNext : AI) (landSum : Int64) (heardSum : Int64) (allWays : Int64) (ways : AI) (drawn : AI) (lanes : AI) (sizes : AI) (cells : AI) (torn : Int32) (before : AI) (p1 : Int32) (res : Int32) (now_o : AI) (landed_o : AI) (landedIn_o : AI) (stepped_o : AI) (hf : fX6_screen p1 st now landed landedIn stepped = some (res, now_o, landed_o, landedIn_o, stepped_o)) : Met l yX6_screen (cdX6_screen :: wsL_law) rmX6_screen (va_Pc [.ref (a_m 0), .int p1] (RWp g sz (wM g a_m st now isKept hearers draft dHearers dWalls toldWinds tape taped pos frm sort value fault wrongAt landed landedIn stepped isThere isAt isNext landSum heardSum allWays ways drawn lanes sizes cells torn before))) (va_Qi (fun x (_ : Unit) => x = res) (fun _ => RWq g (va_A (wM g a_m st now isKept hearers draft dHearers dWalls toldWinds tape taped pos frm sort value fault wrongAt landed landedIn stepped isThere isAt isNext landSum heardSum allWays ways drawn lanes sizes cells torn before) sz) (wM g a_m st now_o isKept hearers draft dHearers dWalls toldWinds tape taped pos frm sort value fault wrongAt landed_o landedIn_o stepped_o isThere isAt isNext landSum heardSum allWays ways drawn lanes sizes cells torn before)) (va_A (wM g a_m st now isKept hearers draft dHearers dWalls toldWinds tape taped pos frm sort value fault wrongAt landed landedIn stepped isThere isAt isNext landSum heardSum allWays ways drawn lanes sizes cells torn before) sz)) 0 0 (va_A (wM g a_m st now isKept hearers draft dHearers dWalls toldWinds tape taped pos frm sort value fault wrongAt landed landedIn stepped isThere isAt isNext landSum heardSum allWays ways drawn lanes sizes cells torn before) sz) := by
  refine Met_rwi (cc := cX6_screen) (maxL := 4) (by decide) rfl (Nat.le_of_ble_eq_true rfl) ?_
  intro P E Z Mi AR BE ME CO A Q C hK hA fin w ls hl
  have hl : lv_has ls 4 [(0, .ref (a_m 0)), (1, .int p1)] := hl
  unfold fX6_screen at hf
  refine lv_iload_n C.1 C.2.1 (dk_at dkX6_screen 0 rfl) rfl (lv_at hl 1 rfl) ?_
  obtain ⟨r1, hq2, hf⟩ := bd1_at hf
  refine r_st (As := [.int p1]) (rest := []) C (kX6_isCell l p1 r1 hq2) (cwS0 C (inr15 _ (List.mem_of_getElem? (i := 8) rfl)) mwX6_isCell hdX6_isCell ⟨Nat.le_of_ble_eq_true rfl, Nat.le_of_ble_eq_true rfl⟩) rfl hl.1 rfl (Nat.le_of_ble_eq_true rfl) ⟨Nat.zero_le _, Nat.zero_le _⟩ (dk_at dkX6_screen 1 rfl) ?_
  refine lv_if_ne (tgt := 9) C.1 C.2.1 (dk_at dkX6_screen 2 rfl) (by decide) (fun c3 => ?_) (fun c3 => ?_)
  · have hf := (if_neg c3).symm.trans hf
    refine lv_aload_n C.1 C.2.1 (dk_at dkX6_screen 5 rfl) rfl (lv_at hl 0 rfl) ?_
    obtain ⟨now_4, hq5, hf⟩ := bd1_at hf
    refine r_rwv (As := []) (rest := []) (wr := []) (ws' := wM g a_m st now_4 isKept hearers draft dHearers dWalls toldWinds tape taped pos frm sort value fault wrongAt landed landedIn stepped isThere isAt isNext landSum heardSum allWays ways drawn lanes sizes cells torn before) C (kX6_starts l g _ a_m st now isKept hearers draft dHearers dWalls toldWinds tape taped pos frm sort value fault wrongAt landed landedIn stepped isThere isAt isNext landSum heardSum allWays ways drawn lanes sizes cells torn before now_4 hq5) (cwV0 C (inr17 _ (List.mem_of_getElem? (i := 3) rfl)) mwX6_starts hdX6_starts ⟨Nat.le_of_ble_eq_true rfl, Nat.le_of_ble_eq_true rfl⟩) hK w hA [0, 1, 2, 3, 4, 5, 6, 7, 8, 9, 10, 11, 12, 13, 14, 15, 16, 17] [] [0, 1, 2, 3, 4, 5, 6, 7, 8, 9, 10, 11, 12, 13, 14, 15, 16, 17] (by decide) rfl rfl (by decide) (by decide) rfl (by decide) rfl rfl rfl hl.1 rfl (Nat.le_of_ble_eq_true rfl) ⟨Nat.zero_le _, Nat.zero_le _⟩ (dk_at dkX6_screen 6 rfl) (fun H locs w => ?_)
    refine lv_aload_n C.1 C.2.1 (dk_at dkX6_screen 7 rfl) rfl (lv_at hl 0 rfl) ?_
    obtain ⟨r6, hq7, hf⟩ := bd1_at hf
    refine r_roV (As := []) (rest := []) C (kX6_walls l g a_m st now_4 isKept hearers draft dHearers dWalls toldWinds tape taped pos frm sort value fault wrongAt landed landedIn stepped isThere isAt isNext landSum heardSum allWays ways drawn lanes sizes cells torn before r6 hq7) (cwV0 C (inr17 _ (List.mem_of_getElem? (i := 10) rfl)) mwX6_walls hdX6_walls ⟨Nat.le_of_ble_eq_true rfl, Nat.le_of_ble_eq_true rfl⟩) hK w.1 rfl rfl rfl hl.1 rfl (Nat.le_of_ble_eq_true rfl) ⟨Nat.zero_le _, Nat.zero_le _⟩ (dk_at dkX6_screen 8 rfl) ?_
    refine lv_bipush (v := 12) C.1 C.2.1 (dk_at dkX6_screen 9 rfl) (by decide) ?_
    refine lv_icmp_ne (tgt := 25) C.1 C.2.1 (dk_at dkX6_screen 10 rfl) (by decide) (fun c8 => ?_) (fun c8 => ?_)
    · have hf := (if_neg c8).symm.trans hf
      refine lv_aload_n C.1 C.2.1 (dk_at dkX6_screen 13 rfl) rfl (lv_at hl 0 rfl) ?_
      obtain ⟨now_9, landed_10, landedIn_11, stepped_12, hq13, hf⟩ := bd4_at hf
      refine r_rwv (As := []) (rest := []) (wr := []) (ws' := wM g a_m st now_9 isKept hearers draft dHearers dWalls toldWinds tape taped pos frm sort value fault wrongAt landed_10 landedIn_11 stepped_12 isThere isAt isNext landSum heardSum allWays ways drawn lanes sizes cells torn before) C (kX6_dayGoes l g _ a_m st now_4 isKept hearers draft dHearers dWalls toldWinds tape taped pos frm sort value fault wrongAt landed landedIn stepped isThere isAt isNext landSum heardSum allWays ways drawn lanes sizes cells torn before now_9 landed_10 landedIn_11 stepped_12 hq13) (cwV0 C (inr25 _ (List.mem_of_getElem? (i := 9) rfl)) mwX6_dayGoes hdX6_dayGoes ⟨Nat.le_of_ble_eq_true rfl, Nat.le_of_ble_eq_true rfl⟩) hK w hA [0, 1, 2, 3, 4, 5, 6, 7, 8, 9, 10, 11, 12, 13, 14, 15, 16, 17] [] [0, 1, 2, 3, 4, 5, 6, 7, 8, 9, 10, 11, 12, 13, 14, 15, 16, 17] (by decide) rfl rfl (by decide) (by decide) rfl (by decide) rfl rfl rfl hl.1 rfl (Nat.le_of_ble_eq_true rfl) ⟨Nat.zero_le _, Nat.zero_le _⟩ (dk_at dkX6_screen 14 rfl) (fun H locs w => ?_)
      refine lv_aload_n C.1 C.2.1 (dk_at dkX6_screen 15 rfl) rfl (lv_at hl 0 rfl) ?_
      refine lv_iload_n C.1 C.2.1 (dk_at dkX6_screen 16 rfl) rfl (lv_at hl 1 rfl) ?_
      obtain ⟨r14, hq15, hf⟩ := bd1_at hf
      refine r_roV (As := [.int p1]) (rest := []) C (kX6_landIn l g a_m st now_9 isKept hearers draft dHearers dWalls toldWinds tape taped pos frm sort value fault wrongAt landed_10 landedIn_11 stepped_12 isThere isAt isNext landSum heardSum allWays ways drawn lanes sizes cells torn before p1 r14 hq15) (cwV0 C (inr26 _ (List.mem_of_getElem? (i := 9) rfl)) mwX6_landIn hdX6_landIn ⟨Nat.le_of_ble_eq_true rfl, Nat.le_of_ble_eq_true rfl⟩) hK w.1 rfl rfl rfl hl.1 rfl (Nat.le_of_ble_eq_true rfl) ⟨Nat.zero_le _, Nat.zero_le _⟩ (dk_at dkX6_screen 17 rfl) ?_
      refine lv_if_ne (tgt := 40) C.1 C.2.1 (dk_at dkX6_screen 18 rfl) (by decide) (fun c16 => ?_) (fun c16 => ?_)
      · have hf := (if_neg c16).symm.trans hf
        refine lv_iconst (v := 0) C.1 C.2.1 (dk_at dkX6_screen 21 rfl) (by decide) ?_
        refine lv_istore_n (lv' := [(2, .int 0), (0, .ref (a_m 0)), (1, .int p1)]) C.1 C.2.1 (dk_at dkX6_screen 22 rfl) rfl hl (by decide) rfl (fun ls hl => ?_)
        have L22 : ∀ (K : Int32 → AI → AI → AI → AI → Option (Int32 × AI × AI × AI × AI)), (∀ (v17 : Int32) (now_18 : AI) (landed_19 : AI) (landedIn_20 : AI) (stepped_21 : AI) (H : Heap) (locs : List Loc) (ls : Array Slot), Wd g A Z.heap (wM g a_m st now_18 isKept hearers draft dHearers dWalls toldWinds tape taped pos frm sort value fault wrongAt landed_19 landedIn_20 stepped_21 isThere isAt isNext landSum heardSum allWays ways drawn lanes sizes cells torn before) H locs → lv_has ls 4 [] → K v17 now_18 landed_19 landedIn_20 stepped_21 = some (res, now_o, landed_o, landedIn_o, stepped_o) → W P l E rmX6_screen Z Mi AR BE ME CO H locs 0 0 Q (F0 Mi 103 ls [])) → ∀ (n : Nat), ∀ (v17 : Int32) (now_18 : AI) (landed_19 : AI) (landedIn_20 : AI) (stepped_21 : AI) (H : Heap) (locs : List Loc) (ls : Array Slot), Wd g A Z.heap (wM g a_m st now_18 isKept hearers draft dHearers dWalls toldWinds tape taped pos frm sort value fault wrongAt landed_19 landedIn_20 stepped_21 isThere isAt isNext landSum heardSum allWays ways drawn lanes sizes cells torn before) H locs → lv_has ls 4 [(2, .int v17), (0, .ref (a_m 0)), (1, .int p1)] → fX6_screen_L42 st p1 K n v17 now_18 landed_19 landedIn_20 stepped_21 = some (res, now_o, landed_o, landedIn_o, stepped_o) → W P l E rmX6_screen Z Mi AR BE ME CO H locs 0 0 Q (F0 Mi 42 ls []) := by
          intro K hKe n
          induction n with
          | zero => intro v17 now_18 landed_19 landedIn_20 stepped_21 H locs ls w hl hf; cases hf
          | succ n ih =>
            intro v17 now_18 landed_19 landedIn_20 stepped_21 H locs ls w hl hf
            rw [fX6_screen_L42] at hf
            refine lv_iload_n C.1 C.2.1 (dk_at dkX6_screen 23 rfl) rfl (lv_at hl 0 rfl) ?_
            refine lv_bipush (v := 64) C.1 C.2.1 (dk_at dkX6_screen 24 rfl) (by decide) ?_
            refine lv_icmp_ge (tgt := 103) C.1 C.2.1 (dk_at dkX6_screen 25 rfl) (by decide) (fun c23 => ?_) (fun c23 => ?_)
            · have hf := (if_pos c23).symm.trans hf
              exact hKe v17 now_18 landed_19 landedIn_20 stepped_21 _ _ _ w (lv_sub hl [] rfl) hf
            · have hf := (if_neg c23).symm.trans hf
              refine lv_iload_n C.1 C.2.1 (dk_at dkX6_screen 26 rfl) rfl (lv_at hl 0 rfl) ?_
              obtain ⟨r24, hq25, hf⟩ := bd1_at hf
              refine r_st (As := [.int v17]) (rest := []) C (kX6_cellAt l v17 r24 hq25) (cwS0 C (inr29 _ (List.mem_of_getElem? (i := 1) rfl)) mwX6_cellAt hdX6_cellAt ⟨Nat.le_of_ble_eq_true rfl, Nat.le_of_ble_eq_true rfl⟩) rfl hl.1 rfl (Nat.le_of_ble_eq_true rfl) ⟨Nat.zero_le _, Nat.zero_le _⟩ (dk_at dkX6_screen 27 rfl) ?_
              refine lv_istore_n (lv' := [(3, .int r24), (2, .int v17), (0, .ref (a_m 0)), (1, .int p1)]) C.1 C.2.1 (dk_at dkX6_screen 28 rfl) rfl hl (by decide) rfl (fun ls hl => ?_)
              refine lv_aload_n C.1 C.2.1 (dk_at dkX6_screen 29 rfl) rfl (lv_at hl 2 rfl) ?_
              obtain ⟨now_26, hq27, hf⟩ := bd1_at hf
              refine r_rwv (As := []) (rest := []) (wr := []) (ws' := wM g a_m st now_26 isKept hearers draft dHearers dWalls toldWinds tape taped pos frm sort value fault wrongAt landed_19 landedIn_20 stepped_21 isThere isAt isNext landSum heardSum allWays ways drawn lanes sizes cells torn before) C (kX6_starts l g _ a_m st now_18 isKept hearers draft dHearers dWalls toldWinds tape taped pos frm sort value fault wrongAt landed_19 landedIn_20 stepped_21 isThere isAt isNext landSum heardSum allWays ways drawn lanes sizes cells torn before now_26 hq27) (cwV0 C (inr17 _ (List.mem_of_getElem? (i := 3) rfl)) mwX6_starts hdX6_starts ⟨Nat.le_of_ble_eq_true rfl, Nat.le_of_ble_eq_true rfl⟩) hK w hA [0, 1, 2, 3, 4, 5, 6, 7, 8, 9, 10, 11, 12, 13, 14, 15, 16, 17] [] [0, 1, 2, 3, 4, 5, 6, 7, 8, 9, 10, 11, 12, 13, 14, 15, 16, 17] (by decide) rfl rfl (by decide) (by decide) rfl (by decide) rfl rfl rfl hl.1 rfl (Nat.le_of_ble_eq_true rfl) ⟨Nat.zero_le _, Nat.zero_le _⟩ (dk_at dkX6_screen 30 rfl) (fun H locs w => ?_)
              refine lv_aload_n C.1 C.2.1 (dk_at dkX6_screen 31 rfl) rfl (lv_at hl 2 rfl) ?_
              refine lv_iload_n C.1 C.2.1 (dk_at dkX6_screen 32 rfl) rfl (lv_at hl 0 rfl) ?_
              obtain ⟨r28, hq29, hf⟩ := bd1_at hf
              refine r_roV (As := [.int r24]) (rest := []) C (kX6_isWall l g a_m st now_26 isKept hearers draft dHearers dWalls toldWinds tape taped pos frm sort value fault wrongAt landed_19 landedIn_20 stepped_21 isThere isAt isNext landSum heardSum allWays ways drawn lanes sizes cells torn before r24 r28 hq29) (cwV0 C (inr20 _ (List.mem_of_getElem? (i := 2) rfl)) mwX6_isWall hdX6_isWall ⟨Nat.le_of_ble_eq_true rfl, Nat.le_of_ble_eq_true rfl⟩) hK w.1 rfl rfl rfl hl.1 rfl (Nat.le_of_ble_eq_true rfl) ⟨Nat.zero_le _, Nat.zero_le _⟩ (dk_at dkX6_screen 33 rfl) ?_
              refine lv_if_ne (tgt := 97) C.1 C.2.1 (dk_at dkX6_screen 34 rfl) (by decide) (fun c30 => ?_) (fun c30 => ?_)
              · have hf := (if_neg c30).symm.trans hf
                obtain ⟨x31, ex31⟩ : ∃ z : Int32, z = v17 + 1 := ⟨_, rfl⟩
                have hf := nm_at ex31 hf
                refine lv_iinc (v := x31) (lv' := [(2, .int x31), (3, .int r24), (0, .ref (a_m 0)), (1, .int p1)]) C.1 C.2.1 (dk_at dkX6_screen 57 rfl) hl (k := 1) rfl (by rw [ex31]; rfl) (by decide) rfl (fun ls hl => ?_)
                refine lv_goto (tgt := 42) C.1 C.2.1 (dk_at dkX6_screen 58 rfl) (by decide) ?_
                exact ih x31 now_26 landed_19 landedIn_20 stepped_21 _ _ _ w (lv_sub hl [0, 2, 3] rfl) hf
              · have hf := (if_pos c30).symm.trans hf
                refine lv_aload_n C.1 C.2.1 (dk_at dkX6_screen 35 rfl) rfl (lv_at hl 2 rfl) ?_
                refine r_get (v := .ref (a_m 2)) C hK w.1 (fun w h => List.mem_cons_of_mem _ (inlX6 w h)) 0 rfl rfl 1 (by decide) (List.mem_cons_of_mem _ (inr4 _ (List.mem_of_getElem? (i := 5) rfl))) rfl (dk_at dkX6_screen 36 rfl) ?_
                refine lv_iload_n C.1 C.2.1 (dk_at dkX6_screen 37 rfl) rfl (lv_at hl 0 rfl) ?_
                refine lv_bipush (v := 10) C.1 C.2.1 (dk_at dkX6_screen 38 rfl) (by decide) ?_
                refine lv_idiv C.1 C.2.1 (dk_at dkX6_screen 39 rfl) (by decide) ?_
                refine lv_topi (fun x32 ex32 => ?_)
                have hf := nm_at ex32 hf
                refine lv_dup2_11 C.1 C.2.1 (dk_at dkX6_screen 40 rfl) rfl rfl ?_
                obtain ⟨h33, hf⟩ := gd_at hf
                refine r_iald (k := x32.toNatClampNeg) (f := now_26) C hK w.1 2 rfl h33 rfl (dk_at dkX6_screen 41 rfl) ?_
                refine lv_topi (fun x34 ex34 => ?_)
                have hf := nm_at ex34 hf
                refine lv_iconst (v := 1) C.1 C.2.1 (dk_at dkX6_screen 42 rfl) (by decide) ?_
                refine lv_iload_n C.1 C.2.1 (dk_at dkX6_screen 43 rfl) rfl (lv_at hl 0 rfl) ?_
                refine lv_bipush (v := 10) C.1 C.2.1 (dk_at dkX6_screen 44 rfl) (by decide) ?_
                refine lv_irem C.1 C.2.1 (dk_at dkX6_screen 45 rfl) (by decide) ?_
                refine lv_ishl C.1 C.2.1 (dk_at dkX6_screen 46 rfl) ?_
                refine lv_ior C.1 C.2.1 (dk_at dkX6_screen 47 rfl) ?_
                refine lv_topi (fun x35 ex35 => ?_)
                have hf := nm_at ex35 hf
                obtain ⟨h36, hf⟩ := gd_at hf
                refine r_iast (k := x32.toNatClampNeg) (f := now_26) C hK w 2 rfl h36 rfl (dk_at dkX6_screen 48 rfl) (fun H locs w => ?_)
                obtain ⟨now_37, enow_37⟩ : ∃ z : AI, z = upd now_26 x32.toNatClampNeg x35 := ⟨_, rfl⟩
                have hf := nm_at enow_37 hf
                have w : Wd g A Z.heap (wM g a_m st now_37 isKept hearers draft dHearers dWalls toldWinds tape taped pos frm sort value fault wrongAt landed_19 landedIn_20 stepped_21 isThere isAt isNext landSum heardSum allWays ways drawn lanes sizes cells torn before) H locs := by rw [enow_37]; exact w
                refine lv_aload_n C.1 C.2.1 (dk_at dkX6_screen 49 rfl) rfl (lv_at hl 2 rfl) ?_
                obtain ⟨now_38, landed_39, landedIn_40, stepped_41, hq42, hf⟩ := bd4_at hf
                refine r_rwv (As := []) (rest := []) (wr := []) (ws' := wM g a_m st now_38 isKept hearers draft dHearers dWalls toldWinds tape taped pos frm sort value fault wrongAt landed_39 landedIn_40 stepped_41 isThere isAt isNext landSum heardSum allWays ways drawn lanes sizes cells torn before) C (kX6_dayGoes l g _ a_m st now_37 isKept hearers draft dHearers dWalls toldWinds tape taped pos frm sort value fault wrongAt landed_19 landedIn_20 stepped_21 isThere isAt isNext landSum heardSum allWays ways drawn lanes sizes cells torn before now_38 landed_39 landedIn_40 stepped_41 hq42) (cwV0 C (inr25 _ (List.mem_of_getElem? (i := 9) rfl)) mwX6_dayGoes hdX6_dayGoes ⟨Nat.le_of_ble_eq_true rfl, Nat.le_of_ble_eq_true rfl⟩) hK w hA [0, 1, 2, 3, 4, 5, 6, 7, 8, 9, 10, 11, 12, 13, 14, 15, 16, 17] [] [0, 1, 2, 3, 4, 5, 6, 7, 8, 9, 10, 11, 12, 13, 14, 15, 16, 17] (by decide) rfl rfl (by decide) (by decide) rfl (by decide) rfl rfl rfl hl.1 rfl (Nat.le_of_ble_eq_true rfl) ⟨Nat.zero_le _, Nat.zero_le _⟩ (dk_at dkX6_screen 50 rfl) (fun H locs w => ?_)
                refine lv_aload_n C.1 C.2.1 (dk_at dkX6_screen 51 rfl) rfl (lv_at hl 2 rfl) ?_
                refine lv_iload_n C.1 C.2.1 (dk_at dkX6_screen 52 rfl) rfl (lv_at hl 3 rfl) ?_
                obtain ⟨r43, hq44, hf⟩ := bd1_at hf
                refine r_roV (As := [.int p1]) (rest := []) C (kX6_landIn l g a_m st now_38 isKept hearers draft dHearers dWalls toldWinds tape taped pos frm sort value fault wrongAt landed_39 landedIn_40 stepped_41 isThere isAt isNext landSum heardSum allWays ways drawn lanes sizes cells torn before p1 r43 hq44) (cwV0 C (inr26 _ (List.mem_of_getElem? (i := 9) rfl)) mwX6_landIn hdX6_landIn ⟨Nat.le_of_ble_eq_true rfl, Nat.le_of_ble_eq_true rfl⟩) hK w.1 rfl rfl rfl hl.1 rfl (Nat.le_of_ble_eq_true rfl) ⟨Nat.zero_le _, Nat.zero_le _⟩ (dk_at dkX6_screen 53 rfl) ?_
                refine lv_if_ne (tgt := 97) C.1 C.2.1 (dk_at dkX6_screen 54 rfl) (by decide) (fun c45 => ?_) (fun c45 => ?_)
                · have hf := (if_neg c45).symm.trans hf
                  obtain ⟨x46, ex46⟩ : ∃ z : Int32, z = v17 + 1 := ⟨_, rfl⟩
                  have hf := nm_at ex46 hf
                  refine lv_iinc (v := x46) (lv' := [(2, .int x46), (3, .int r24), (0, .ref (a_m 0)), (1, .int p1)]) C.1 C.2.1 (dk_at dkX6_screen 57 rfl) hl (k := 1) rfl (by rw [ex46]; rfl) (by decide) rfl (fun ls hl => ?_)
                  refine lv_goto (tgt := 42) C.1 C.2.1 (dk_at dkX6_screen 58 rfl) (by decide) ?_
                  exact ih x46 now_38 landed_39 landedIn_40 stepped_41 _ _ _ w (lv_sub hl [0, 2, 3] rfl) hf
                · have hf := (if_pos c45).symm.trans hf
                  refine lv_iload_n C.1 C.2.1 (dk_at dkX6_screen 55 rfl) rfl (lv_at hl 0 rfl) ?_
                  cases hf
                  exact fin _ _ _ _ _ (dk_at dkX6_screen 56 rfl) rfl w
        refine L22 _ ?_ 4096 0 now_9 landed_10 landedIn_11 stepped_12 _ _ _ w (lv_sub hl [0, 1, 2] rfl) hf
        clear hf
        intro v17 now_18 landed_19 landedIn_20 stepped_21 H locs ls w hl hf
        refine lv_bipush (v := (-4)) C.1 C.2.1 (dk_at dkX6_screen 59 rfl) (by decide) ?_
        cases hf
        exact fin _ _ _ _ _ (dk_at dkX6_screen 60 rfl) rfl w
      · have hf := (if_pos c16).symm.trans hf
        refine lv_bipush (v := (-4)) C.1 C.2.1 (dk_at dkX6_screen 19 rfl) (by decide) ?_
        cases hf
        exact fin _ _ _ _ _ (dk_at dkX6_screen 20 rfl) rfl w
    · have hf := (if_pos c8).symm.trans hf
      refine lv_bipush (v := (-3)) C.1 C.2.1 (dk_at dkX6_screen 11 rfl) (by decide) ?_
      cases hf
      exact fin _ _ _ _ _ (dk_at dkX6_screen 12 rfl) rfl w
  · have hf := (if_pos c3).symm.trans hf
    refine lv_iconst (v := (-1)) C.1 C.2.1 (dk_at dkX6_screen 3 rfl) (by decide) ?_
    cases hf
    exact fin _ _ _ _ _ (dk_at dkX6_screen 4 rfl) rfl w
-- X6.isFree
abbrev tbX6_isFree : List (Nat × Instr × Nat) := [(0, .aload_n 0, 1), (1, .iload_n 1, 1), (2, .invokevirtual 252, 3), (5, .ifCond .ne 7, 3), (8, .iconst 1, 1), (9, .goto 4, 3), (12, .iconst 0, 1), (13, .istore_n 3, 1), (14, .iconst 0, 1), (15, .istore 4, 2), (17, .iload 4, 2), (19, .aload_n 0, 1), (20, .getfield 13, 3), (23, .bipush 43, 2), (25, .iaload, 1), (26, .if_icmp .ge 41, 3), (29, .iload_n 3, 1), (30, .ifCond .eq 29, 3), (33, .aload_n 0, 1), (34, .getfield 26, 3), (37, .iload 4, 2), (39, .iaload, 1), (40, .iload_n 1, 1), (41, .if_icmp .ne 14, 3), (44, .aload_n 0, 1), (45, .getfield 29, 3), (48, .iload 4, 2), (50, .iaload, 1), (51, .iload_n 2, 1), (52, .if_icmp .eq 7, 3), (55, .iconst 1, 1), (56, .goto 4, 3), (59, .iconst 0, 1), (60, .istore_n 3, 1), (61, .iinc 4 1, 3), (64, .goto (-47), 3), (67, .iload_n 3, 1), (68, .ireturn, 1)]
theorem dkX6_isFree : dk cX6_isFree tbX6_isFree := dk_of (by decide +kernel)
abbrev cdX6_isFree : Cond := Cond.code yX6_isFree cX6_isFree 5 (some .boolean)
abbrev rmX6_isFree : Room := { frames := 1, cells := 0, slots := 0, locals := 21 }
theorem mwX6_isFree : Cond.instanceMethod yX6_isFree ∈ wsL_law ∧ Cond.selects RX6 yX6_isFree yX6_isFree ∈ wsL_law ∧ Cond.initialized RX6 ∈ wsL_law ∧ cdX6_isFree ∈ wsL_law := ⟨inr32 _ (List.mem_of_getElem? (i := 6) rfl), inr32 _ (List.mem_of_getElem? (i := 7) rfl), inr1 _ (List.mem_of_getElem? (i := 5) rfl), inr32 _ (List.mem_of_getElem? (i := 8) rfl)⟩
theorem hdX6_isFree : yX6_isFree.cls = RX6 ∧ yX6_isFree.cls ≠ "java/lang/invoke/MethodHandle" ∧ yX6_isFree.cls ≠ "java/lang/invoke/VarHandle" ∧ (parseMethodDescriptor yX6_isFree.desc).map (fun d => d.parameters.length) = some 2 := by decide +kernel
set_option maxHeartbeats 4000000 in
set_option maxRecDepth 100000 in
theorem kX6_isFree (l : Launch) (g : Gx) (a_m : Nat → Nat) (st : AI) (now : AI) (isKept : AI) (hearers : Int32) (draft : AI) (dHearers : Int32) (dWalls : Int32) (toldWinds : Int32) (tape : AI) (taped : Int32) (pos : Int32) (frm : Int32) (sort : Int32) (value : Int32) (fault : Int32) (wrongAt : Int32) (landed : AI) (landedIn : AI) (stepped : AI) (isThere : AI) (isAt : AI) (isNext : AI) (landSum : Int64) (heardSum : Int64) (allWays : Int64) (ways : AI) (drawn : AI) (lanes : AI) (sizes : AI) (cells : AI) (torn : Int32) (before : AI) (p1 : Int32) (p2 : Int32) (res : Int32) (hf : fX6_isFree p1 p2 st now landed landedIn = some res) : Met l yX6_isFree (cdX6_isFree :: wsL_law) rmX6_isFree (va_Pc [.ref (a_m 0), .int p1, .int p2] (RO g (wM g a_m st now isKept hearers draft dHearers dWalls toldWinds tape taped pos frm sort value fault wrongAt landed landedIn stepped isThere isAt isNext landSum heardSum allWays ways drawn lanes sizes cells torn before))) (vp_Si (fun x => x = res)) 0 0 (fun _ => False) := by
  refine Met_roz (cc := cX6_isFree) (maxL := 5) (by decide) rfl (Nat.le_of_ble_eq_true rfl) ?_
  intro P E Z Mi AR BE ME CO Q C fin hK hP ls hl
  have hl : lv_has ls 5 [(0, .ref (a_m 0)), (1, .int p1), (2, .int p2)] := hl
  unfold fX6_isFree at hf
  refine lv_aload_n C.1 C.2.1 (dk_at dkX6_isFree 0 rfl) rfl (lv_at hl 0 rfl) ?_
  refine lv_iload_n C.1 C.2.1 (dk_at dkX6_isFree 1 rfl) rfl (lv_at hl 1 rfl) ?_
  obtain ⟨r1, hq2, hf⟩ := bd1_at hf
  refine r_roV (As := [.int p1]) (rest := []) C (kX6_isWallAhead l g a_m st now isKept hearers draft dHearers dWalls toldWinds tape taped pos frm sort value fault wrongAt landed landedIn stepped isThere isAt isNext landSum heardSum allWays ways drawn lanes sizes cells torn before p1 r1 hq2) (cwV0 C (inr29 _ (List.mem_of_getElem? (i := 4) rfl)) mwX6_isWallAhead hdX6_isWallAhead ⟨Nat.le_of_ble_eq_true rfl, Nat.le_of_ble_eq_true rfl⟩) hK hP rfl rfl rfl hl.1 rfl (Nat.le_of_ble_eq_true rfl) ⟨Nat.zero_le _, Nat.zero_le _⟩ (dk_at dkX6_isFree 2 rfl) ?_
  obtain ⟨y3, hq4, hf⟩ := bd1_at hf
  have J5 : ∀ (ls : Array Slot), lv_has ls 5 [(0, .ref (a_m 0)), (1, .int p1), (2, .int p2)] → W P l E rmX6_isFree Z Mi AR BE ME CO Z.heap [] 0 0 Q (F0 Mi 13 ls [.int y3]) := by
    intro ls hl
    refine lv_istore_n (lv' := [(3, .int y3), (0, .ref (a_m 0)), (1, .int p1), (2, .int p2)]) C.1 C.2.1 (dk_at dkX6_isFree 7 rfl) rfl hl (by decide) rfl (fun ls hl => ?_)
    refine lv_iconst (v := 0) C.1 C.2.1 (dk_at dkX6_isFree 8 rfl) (by decide) ?_
    refine lv_istore (lv' := [(4, .int 0), (3, .int y3), (0, .ref (a_m 0)), (1, .int p1), (2, .int p2)]) C.1 C.2.1 (dk_at dkX6_isFree 9 rfl) hl (by decide) rfl (fun ls hl => ?_)
    have L8 : ∀ (K : Int32 → Int32 → Option (Int32)), (∀ (v6 : Int32) (v7 : Int32) (ls : Array Slot), lv_has ls 5 [(3, .int v7)] → K v6 v7 = some res → W P l E rmX6_isFree Z Mi AR BE ME CO Z.heap [] 0 0 Q (F0 Mi 67 ls [])) → ∀ (n : Nat), ∀ (v6 : Int32) (v7 : Int32) (ls : Array Slot), lv_has ls 5 [(4, .int v6), (3, .int v7), (0, .ref (a_m 0)), (1, .int p1), (2, .int p2)] → fX6_isFree_L17 now landed landedIn p1 p2 K n v6 v7 = some res → W P l E rmX6_isFree Z Mi AR BE ME CO Z.heap [] 0 0 Q (F0 Mi 17 ls []) := by
      intro K hKe n
      induction n with
      | zero => intro v6 v7 ls hl hf; cases hf
      | succ n ih =>
        intro v6 v7 ls hl hf
        rw [fX6_isFree_L17] at hf
        refine lv_iload C.1 C.2.1 (dk_at dkX6_isFree 10 rfl) (lv_at hl 0 rfl) ?_
        refine lv_aload_n C.1 C.2.1 (dk_at dkX6_isFree 11 rfl) rfl (lv_at hl 2 rfl) ?_
        refine r_get (v := .ref (a_m 2)) C hK hP (fun w h => List.mem_cons_of_mem _ (inlX6 w h)) 0 rfl rfl 1 (by decide) (List.mem_cons_of_mem _ (inr4 _ (List.mem_of_getElem? (i := 5) rfl))) rfl (dk_at dkX6_isFree 12 rfl) ?_
        refine lv_bipush (v := 43) C.1 C.2.1 (dk_at dkX6_isFree 13 rfl) (by decide) ?_
        refine r_iald (k := 43) (f := now) C hK hP 2 rfl (in_c (by decide)) (by decide) (dk_at dkX6_isFree 14 rfl) ?_
        refine lv_icmp_ge (tgt := 67) C.1 C.2.1 (dk_at dkX6_isFree 15 rfl) (by decide) (fun c9 => ?_) (fun c9 => ?_)
        · have hf := (if_pos c9).symm.trans hf
          exact hKe v6 v7 _ (lv_sub hl [1] rfl) hf
        · have hf := (if_neg c9).symm.trans hf
          refine lv_iload_n C.1 C.2.1 (dk_at dkX6_isFree 16 rfl) rfl (lv_at hl 1 rfl) ?_
          refine lv_if_eq (tgt := 59) C.1 C.2.1 (dk_at dkX6_isFree 17 rfl) (by decide) (fun c10 => ?_) (fun c10 => ?_)
          · have hf := (if_pos c10).symm.trans hf
            refine lv_iconst (v := 0) C.1 C.2.1 (dk_at dkX6_isFree 32 rfl) (by decide) ?_
            refine lv_istore_n (lv' := [(3, .int 0), (4, .int v6), (0, .ref (a_m 0)), (1, .int p1), (2, .int p2)]) C.1 C.2.1 (dk_at dkX6_isFree 33 rfl) rfl hl (by decide) rfl (fun ls hl => ?_)
            obtain ⟨x11, ex11⟩ : ∃ z : Int32, z = v6 + 1 := ⟨_, rfl⟩
            have hf := nm_at ex11 hf
            refine lv_iinc (v := x11) (lv' := [(4, .int x11), (3, .int 0), (0, .ref (a_m 0)), (1, .int p1), (2, .int p2)]) C.1 C.2.1 (dk_at dkX6_isFree 34 rfl) hl (k := 1) rfl (by rw [ex11]; rfl) (by decide) rfl (fun ls hl => ?_)
            refine lv_goto (tgt := 17) C.1 C.2.1 (dk_at dkX6_isFree 35 rfl) (by decide) ?_
            exact ih x11 0 _ (lv_sub hl [0, 1, 2, 3, 4] rfl) hf
          · have hf := (if_neg c10).symm.trans hf
            refine lv_aload_n C.1 C.2.1 (dk_at dkX6_isFree 18 rfl) rfl (lv_at hl 2 rfl) ?_
            refine r_get (v := .ref (a_m 6)) C hK hP (fun w h => List.mem_cons_of_mem _ (inlX6 w h)) 0 rfl rfl 16 (by decide) (List.mem_cons_of_mem _ (inr4 _ (List.mem_of_getElem? (i := 9) rfl))) rfl (dk_at dkX6_isFree 19 rfl) ?_
            refine lv_iload C.1 C.2.1 (dk_at dkX6_isFree 20 rfl) (lv_at hl 0 rfl) ?_
            obtain ⟨h12, hf⟩ := gd_at hf
            refine r_iald (k := v6.toNatClampNeg) (f := landed) C hK hP 6 rfl h12 rfl (dk_at dkX6_isFree 21 rfl) ?_
            refine lv_topi (fun x13 ex13 => ?_)
            have hf := nm_at ex13 hf
            refine lv_iload_n C.1 C.2.1 (dk_at dkX6_isFree 22 rfl) rfl (lv_at hl 3 rfl) ?_
            refine lv_icmp_ne (tgt := 55) C.1 C.2.1 (dk_at dkX6_isFree 23 rfl) (by decide) (fun c14 => ?_) (fun c14 => ?_)
            · have hf := (if_neg c14).symm.trans hf
              refine lv_iconst (v := 1) C.1 C.2.1 (dk_at dkX6_isFree 30 rfl) (by decide) ?_
              refine lv_goto (tgt := 60) C.1 C.2.1 (dk_at dkX6_isFree 31 rfl) (by decide) ?_
              refine lv_istore_n (lv' := [(3, .int 1), (4, .int v6), (0, .ref (a_m 0)), (1, .int p1), (2, .int p2)]) C.1 C.2.1 (dk_at dkX6_isFree 33 rfl) rfl hl (by decide) rfl (fun ls hl => ?_)
              obtain ⟨x15, ex15⟩ : ∃ z : Int32, z = v6 + 1 := ⟨_, rfl⟩
              have hf := nm_at ex15 hf
              refine lv_iinc (v := x15) (lv' := [(4, .int x15), (3, .int 1), (0, .ref (a_m 0)), (1, .int p1), (2, .int p2)]) C.1 C.2.1 (dk_at dkX6_isFree 34 rfl) hl (k := 1) rfl (by rw [ex15]; rfl) (by decide) rfl (fun ls hl => ?_)
              refine lv_goto (tgt := 17) C.1 C.2.1 (dk_at dkX6_isFree 35 rfl) (by decide) ?_
              exact ih x15 1 _ (lv_sub hl [0, 1, 2, 3, 4] rfl) hf
            · have hf := (if_pos c14).symm.trans hf
              refine lv_aload_n C.1 C.2.1 (dk_at dkX6_isFree 24 rfl) rfl (lv_at hl 2 rfl) ?_
              refine r_get (v := .ref (a_m 7)) C hK hP (fun w h => List.mem_cons_of_mem _ (inlX6 w h)) 0 rfl rfl 17 (by decide) (List.mem_cons_of_mem _ (inr4 _ (List.mem_of_getElem? (i := 10) rfl))) rfl (dk_at dkX6_isFree 25 rfl) ?_
              refine lv_iload C.1 C.2.1 (dk_at dkX6_isFree 26 rfl) (lv_at hl 0 rfl) ?_
              obtain ⟨h16, hf⟩ := gd_at hf
              refine r_iald (k := v6.toNatClampNeg) (f := landedIn) C hK hP 7 rfl h16 rfl (dk_at dkX6_isFree 27 rfl) ?_
              refine lv_topi (fun x17 ex17 => ?_)
              have hf := nm_at ex17 hf
              refine lv_iload_n C.1 C.2.1 (dk_at dkX6_isFree 28 rfl) rfl (lv_at hl 4 rfl) ?_
              refine lv_icmp_eq (tgt := 59) C.1 C.2.1 (dk_at dkX6_isFree 29 rfl) (by decide) (fun c18 => ?_) (fun c18 => ?_)
              · have hf := (if_pos c18).symm.trans hf
                refine lv_iconst (v := 0) C.1 C.2.1 (dk_at dkX6_isFree 32 rfl) (by decide) ?_
                refine lv_istore_n (lv' := [(3, .int 0), (4, .int v6), (0, .ref (a_m 0)), (1, .int p1), (2, .int p2)]) C.1 C.2.1 (dk_at dkX6_isFree 33 rfl) rfl hl (by decide) rfl (fun ls hl => ?_)
                obtain ⟨x19, ex19⟩ : ∃ z : Int32, z = v6 + 1 := ⟨_, rfl⟩
                have hf := nm_at ex19 hf
                refine lv_iinc (v := x19) (lv' := [(4, .int x19), (3, .int 0), (0, .ref (a_m 0)), (1, .int p1), (2, .int p2)]) C.1 C.2.1 (dk_at dkX6_isFree 34 rfl) hl (k := 1) rfl (by rw [ex19]; rfl) (by decide) rfl (fun ls hl => ?_)
                refine lv_goto (tgt := 17) C.1 C.2.1 (dk_at dkX6_isFree 35 rfl) (by decide) ?_
                exact ih x19 0 _ (lv_sub hl [0, 1, 2, 3, 4] rfl) hf
              · have hf := (if_neg c18).symm.trans hf
                refine lv_iconst (v := 1) C.1 C.2.1 (dk_at dkX6_isFree 30 rfl) (by decide) ?_
                refine lv_goto (tgt := 60) C.1 C.2.1 (dk_at dkX6_isFree 31 rfl) (by decide) ?_
                refine lv_istore_n (lv' := [(3, .int 1), (4, .int v6), (0, .ref (a_m 0)), (1, .int p1), (2, .int p2)]) C.1 C.2.1 (dk_at dkX6_isFree 33 rfl) rfl hl (by decide) rfl (fun ls hl => ?_)
                obtain ⟨x20, ex20⟩ : ∃ z : Int32, z = v6 + 1 := ⟨_, rfl⟩
                have hf := nm_at ex20 hf
                refine lv_iinc (v := x20) (lv' := [(4, .int x20), (3, .int 1), (0, .ref (a_m 0)), (1, .int p1), (2, .int p2)]) C.1 C.2.1 (dk_at dkX6_isFree 34 rfl) hl (k := 1) rfl (by rw [ex20]; rfl) (by decide) rfl (fun ls hl => ?_)
                refine lv_goto (tgt := 17) C.1 C.2.1 (dk_at dkX6_isFree 35 rfl) (by decide) ?_
                exact ih x20 1 _ (lv_sub hl [0, 1, 2, 3, 4] rfl) hf
    refine L8 _ ?_ 4096 0 y3 _ (lv_sub hl [0, 1, 2, 3, 4] rfl) hf
    clear hf
    intro v6 v7 ls hl hf
    refine lv_iload_n C.1 C.2.1 (dk_at dkX6_isFree 36 rfl) rfl (lv_at hl 0 rfl) ?_
    obtain ⟨h21, hf⟩ := gb_at hf
    cases hf
    exact fin _ _ _ (dk_at dkX6_isFree 37 rfl) h21 rfl
  clear hf
  have hf := hq4
  refine lv_if_ne (tgt := 12) C.1 C.2.1 (dk_at dkX6_isFree 3 rfl) (by decide) (fun c22 => ?_) (fun c22 => ?_)
  · have hf := (if_neg c22).symm.trans hf
    refine lv_iconst (v := 0) C.1 C.2.1 (dk_at dkX6_isFree 6 rfl) (by decide) ?_
    cases hf
    exact J5 _ (lv_sub hl [0, 1, 2] rfl)
  · have hf := (if_pos c22).symm.trans hf
    refine lv_iconst (v := 1) C.1 C.2.1 (dk_at dkX6_isFree 4 rfl) (by decide) ?_
    refine lv_goto (tgt := 13) C.1 C.2.1 (dk_at dkX6_isFree 5 rfl) (by decide) ?_
    cases hf
    exact J5 _ (lv_sub hl [0, 1, 2] rfl)
-- X6.beginsWalk
abbrev tbX6_beginsWalk : List (Nat × Instr × Nat) := [(0, .aload_n 0, 1), (1, .invokevirtual 237, 3), (4, .iconst 0, 1), (5, .istore_n 2, 1), (6, .iload_n 2, 1), (7, .bipush 80, 2), (9, .if_icmp .ge 16, 3), (12, .aload_n 0, 1), (13, .getfield 38, 3), (16, .iload_n 2, 1), (17, .iconst 0, 1), (18, .bastore, 1), (19, .iinc 2 1, 3), (22, .goto (-16), 3), (25, .aload_n 0, 1), (26, .getfield 38, 3), (29, .iload_n 1, 1), (30, .aload_n 0, 1), (31, .iload_n 1, 1), (32, .iconst 0, 1), (33, .invokevirtual 262, 3), (36, .bastore, 1), (37, .return_, 1)]
theorem dkX6_beginsWalk : dk cX6_beginsWalk tbX6_beginsWalk := dk_of (by decide +kernel)
abbrev cdX6_beginsWalk : Cond := Cond.code yX6_beginsWalk cX6_beginsWalk 3 none
abbrev rmX6_beginsWalk : Room := { frames := 5, cells := 0, slots := 0, locals := 117 }
theorem mwX6_beginsWalk : Cond.instanceMethod yX6_beginsWalk ∈ wsL_law ∧ Cond.selects RX6 yX6_beginsWalk yX6_beginsWalk ∈ wsL_law ∧ Cond.initialized RX6 ∈ wsL_law ∧ cdX6_beginsWalk ∈ wsL_law := ⟨inr32 _ (List.mem_of_getElem? (i := 2) rfl), inr32 _ (List.mem_of_getElem? (i := 3) rfl), inr1 _ (List.mem_of_getElem? (i := 5) rfl), inr32 _ (List.mem_of_getElem? (i := 4) rfl)⟩
theorem hdX6_beginsWalk : yX6_beginsWalk.cls = RX6 ∧ yX6_beginsWalk.cls ≠ "java/lang/invoke/MethodHandle" ∧ yX6_beginsWalk.cls ≠ "java/lang/invoke/VarHandle" ∧ (parseMethodDescriptor yX6_beginsWalk.desc).map (fun d => d.parameters.length) = some 1 := by decide +kernel
set_option maxHeartbeats 4000000 in
set_option maxRecDepth 100000 in
theorem kX6_beginsWalk (l : Launch) (g : Gx) (sz : Nat) (a_m : Nat → Nat) (st : AI) (now : AI) (isKept : AI) (hearers : Int32) (draft : AI) (dHearers : Int32) (dWalls : Int32) (toldWinds : Int32) (tape : AI) (taped : Int32) (pos : Int32) (frm : Int32) (sort : Int32) (value : Int32) (fault : Int32) (wrongAt : Int32) (landed : AI) (landedIn : AI) (stepped : AI) (isThere : AI) (isAt : AI) (isNext : AI) (landSum : Int64) (heardSum : Int64) (allWays : Int64) (ways : AI) (drawn : AI) (lanes : AI) (sizes : AI) (cells : AI) (torn : Int32) (before : AI) (p1 : Int32) (now_o : AI) (landed_o : AI) (landedIn_o : AI) (stepped_o : AI) (isAt_o : AI) (hf : fX6_beginsWalk p1 st now landed landedIn stepped isAt = some (now_o, landed_o, landedIn_o, stepped_o, isAt_o)) : Met l yX6_beginsWalk (cdX6_beginsWalk :: wsL_law) rmX6_beginsWalk (va_Pc [.ref (a_m 0), .int p1] (RWp g sz (wM g a_m st now isKept hearers draft dHearers dWalls toldWinds tape taped pos frm sort value fault wrongAt landed landedIn stepped isThere isAt isNext landSum heardSum allWays ways drawn lanes sizes cells torn before))) (va_Qv (fun _ : Unit => True) (fun _ => RWq g (va_A (wM g a_m st now isKept hearers draft dHearers dWalls toldWinds tape taped pos frm sort value fault wrongAt landed landedIn stepped isThere isAt isNext landSum heardSum allWays ways drawn lanes sizes cells torn before) sz) (wM g a_m st now_o isKept hearers draft dHearers dWalls toldWinds tape taped pos frm sort value fault wrongAt landed_o landedIn_o stepped_o isThere isAt_o isNext landSum heardSum allWays ways drawn lanes sizes cells torn before)) (va_A (wM g a_m st now isKept hearers draft dHearers dWalls toldWinds tape taped pos frm sort value fault wrongAt landed landedIn stepped isThere isAt isNext landSum heardSum allWays ways drawn lanes sizes cells torn before) sz)) 0 0 (va_A (wM g a_m st now isKept hearers draft dHearers dWalls toldWinds tape taped pos frm sort value fault wrongAt landed landedIn stepped isThere isAt isNext landSum heardSum allWays ways drawn lanes sizes cells torn before) sz) := by
  refine Met_rwv (cc := cX6_beginsWalk) (maxL := 3) (by decide) rfl (Nat.le_of_ble_eq_true rfl) ?_
  intro P E Z Mi AR BE ME CO A Q C hK hA fin w ls hl
  have hl : lv_has ls 3 [(0, .ref (a_m 0)), (1, .int p1)] := hl
  unfold fX6_beginsWalk at hf
  refine lv_aload_n C.1 C.2.1 (dk_at dkX6_beginsWalk 0 rfl) rfl (lv_at hl 0 rfl) ?_
  obtain ⟨now_1, landed_2, landedIn_3, stepped_4, hq5, hf⟩ := bd4_at hf
  refine r_rwv (As := []) (rest := []) (wr := []) (ws' := wM g a_m st now_1 isKept hearers draft dHearers dWalls toldWinds tape taped pos frm sort value fault wrongAt landed_2 landedIn_3 stepped_4 isThere isAt isNext landSum heardSum allWays ways drawn lanes sizes cells torn before) C (kX6_goesAsItIs l g _ a_m st now isKept hearers draft dHearers dWalls toldWinds tape taped pos frm sort value fault wrongAt landed landedIn stepped isThere isAt isNext landSum heardSum allWays ways drawn lanes sizes cells torn before now_1 landed_2 landedIn_3 stepped_4 hq5) (cwV0 C (inr25 _ (List.mem_of_getElem? (i := 5) rfl)) mwX6_goesAsItIs hdX6_goesAsItIs ⟨Nat.le_of_ble_eq_true rfl, Nat.le_of_ble_eq_true rfl⟩) hK w hA [0, 1, 2, 3, 4, 5, 6, 7, 8, 9, 10, 11, 12, 13, 14, 15, 16, 17] [] [0, 1, 2, 3, 4, 5, 6, 7, 8, 9, 10, 11, 12, 13, 14, 15, 16, 17] (by decide) rfl rfl (by decide) (by decide) rfl (by decide) rfl rfl rfl hl.1 rfl (Nat.le_of_ble_eq_true rfl) ⟨Nat.zero_le _, Nat.zero_le _⟩ (dk_at dkX6_beginsWalk 1 rfl) (fun H locs w => ?_)
  refine lv_iconst (v := 0) C.1 C.2.1 (dk_at dkX6_beginsWalk 2 rfl) (by decide) ?_
  refine lv_istore_n (lv' := [(2, .int 0), (0, .ref (a_m 0)), (1, .int p1)]) C.1 C.2.1 (dk_at dkX6_beginsWalk 3 rfl) rfl hl (by decide) rfl (fun ls hl => ?_)
  have L8 : ∀ (K : Int32 → AI → Option (AI × AI × AI × AI × AI)), (∀ (v6 : Int32) (isAt_7 : AI) (H : Heap) (locs : List Loc) (ls : Array Slot), Wd g A Z.heap (wM g a_m st now_1 isKept hearers draft dHearers dWalls toldWinds tape taped pos frm sort value fault wrongAt landed_2 landedIn_3 stepped_4 isThere isAt_7 isNext landSum heardSum allWays ways drawn lanes sizes cells torn before) H locs → lv_has ls 3 [(0, .ref (a_m 0)), (1, .int p1)] → K v6 isAt_7 = some (now_o, landed_o, landedIn_o, stepped_o, isAt_o) → W P l E rmX6_beginsWalk Z Mi AR BE ME CO H locs 0 0 Q (F0 Mi 25 ls [])) → ∀ (n : Nat), ∀ (v6 : Int32) (isAt_7 : AI) (H : Heap) (locs : List Loc) (ls : Array Slot), Wd g A Z.heap (wM g a_m st now_1 isKept hearers draft dHearers dWalls toldWinds tape taped pos frm sort value fault wrongAt landed_2 landedIn_3 stepped_4 isThere isAt_7 isNext landSum heardSum allWays ways drawn lanes sizes cells torn before) H locs → lv_has ls 3 [(2, .int v6), (0, .ref (a_m 0)), (1, .int p1)] → fX6_beginsWalk_L6 K n v6 isAt_7 = some (now_o, landed_o, landedIn_o, stepped_o, isAt_o) → W P l E rmX6_beginsWalk Z Mi AR BE ME CO H locs 0 0 Q (F0 Mi 6 ls []) := by
    intro K hKe n
    induction n with
    | zero => intro v6 isAt_7 H locs ls w hl hf; cases hf
    | succ n ih =>
      intro v6 isAt_7 H locs ls w hl hf
      rw [fX6_beginsWalk_L6] at hf
      refine lv_iload_n C.1 C.2.1 (dk_at dkX6_beginsWalk 4 rfl) rfl (lv_at hl 0 rfl) ?_
      refine lv_bipush (v := 80) C.1 C.2.1 (dk_at dkX6_beginsWalk 5 rfl) (by decide) ?_
      refine lv_icmp_ge (tgt := 25) C.1 C.2.1 (dk_at dkX6_beginsWalk 6 rfl) (by decide) (fun c9 => ?_) (fun c9 => ?_)
      · have hf := (if_pos c9).symm.trans hf
        exact hKe v6 isAt_7 _ _ _ w (lv_sub hl [1, 2] rfl) hf
      · have hf := (if_neg c9).symm.trans hf
        refine lv_aload_n C.1 C.2.1 (dk_at dkX6_beginsWalk 7 rfl) rfl (lv_at hl 1 rfl) ?_
        refine r_get (v := .ref (a_m 10)) C hK w.1 (fun w h => List.mem_cons_of_mem _ (inlX6 w h)) 0 rfl rfl 20 (by decide) (List.mem_cons_of_mem _ (inr4 _ (List.mem_of_getElem? (i := 13) rfl))) rfl (dk_at dkX6_beginsWalk 8 rfl) ?_
        refine lv_iload_n C.1 C.2.1 (dk_at dkX6_beginsWalk 9 rfl) rfl (lv_at hl 0 rfl) ?_
        refine lv_iconst (v := 0) C.1 C.2.1 (dk_at dkX6_beginsWalk 10 rfl) (by decide) ?_
        obtain ⟨h10, hf⟩ := gd_at hf
        refine r_zast (k := v6.toNatClampNeg) (f := isAt_7) C hK w 10 rfl h10 rfl (dk_at dkX6_beginsWalk 11 rfl) (fun H locs w => ?_)
        obtain ⟨isAt_11, eisAt_11⟩ : ∃ z : AI, z = upd isAt_7 v6.toNatClampNeg (vp_nar .boolean 0) := ⟨_, rfl⟩
        have hf := nm_at eisAt_11 hf
        have w : Wd g A Z.heap (wM g a_m st now_1 isKept hearers draft dHearers dWalls toldWinds tape taped pos frm sort value fault wrongAt landed_2 landedIn_3 stepped_4 isThere isAt_11 isNext landSum heardSum allWays ways drawn lanes sizes cells torn before) H locs := by rw [eisAt_11]; exact w
        obtain ⟨x12, ex12⟩ : ∃ z : Int32, z = v6 + 1 := ⟨_, rfl⟩
        have hf := nm_at ex12 hf
        refine lv_iinc (v := x12) (lv' := [(2, .int x12), (0, .ref (a_m 0)), (1, .int p1)]) C.1 C.2.1 (dk_at dkX6_beginsWalk 12 rfl) hl (k := 0) rfl (by rw [ex12]; rfl) (by decide) rfl (fun ls hl => ?_)
        refine lv_goto (tgt := 6) C.1 C.2.1 (dk_at dkX6_beginsWalk 13 rfl) (by decide) ?_
        exact ih x12 isAt_11 _ _ _ w (lv_sub hl [0, 1, 2] rfl) hf
  refine L8 _ ?_ 4096 0 isAt _ _ _ w (lv_sub hl [0, 1, 2] rfl) hf
  clear hf
  intro v6 isAt_7 H locs ls w hl hf
  refine lv_aload_n C.1 C.2.1 (dk_at dkX6_beginsWalk 14 rfl) rfl (lv_at hl 0 rfl) ?_
  refine r_get (v := .ref (a_m 10)) C hK w.1 (fun w h => List.mem_cons_of_mem _ (inlX6 w h)) 0 rfl rfl 20 (by decide) (List.mem_cons_of_mem _ (inr4 _ (List.mem_of_getElem? (i := 13) rfl))) rfl (dk_at dkX6_beginsWalk 15 rfl) ?_
  refine lv_iload_n C.1 C.2.1 (dk_at dkX6_beginsWalk 16 rfl) rfl (lv_at hl 1 rfl) ?_
  refine lv_aload_n C.1 C.2.1 (dk_at dkX6_beginsWalk 17 rfl) rfl (lv_at hl 0 rfl) ?_
  refine lv_iload_n C.1 C.2.1 (dk_at dkX6_beginsWalk 18 rfl) rfl (lv_at hl 1 rfl) ?_
  refine lv_iconst (v := 0) C.1 C.2.1 (dk_at dkX6_beginsWalk 19 rfl) (by decide) ?_
  obtain ⟨r13, hq14, hf⟩ := bd1_at hf
  refine r_roV (As := [.int p1, .int 0]) (rest := [.int p1, .ref (a_m 10)]) C (kX6_isFree l g a_m st now_1 isKept hearers draft dHearers dWalls toldWinds tape taped pos frm sort value fault wrongAt landed_2 landedIn_3 stepped_4 isThere isAt_7 isNext landSum heardSum allWays ways drawn lanes sizes cells torn before p1 0 r13 hq14) (cwV0 C (inr32 _ (List.mem_of_getElem? (i := 5) rfl)) mwX6_isFree hdX6_isFree ⟨Nat.le_of_ble_eq_true rfl, Nat.le_of_ble_eq_true rfl⟩) hK w.1 rfl rfl rfl hl.1 rfl (Nat.le_of_ble_eq_true rfl) ⟨Nat.zero_le _, Nat.zero_le _⟩ (dk_at dkX6_beginsWalk 20 rfl) ?_
  obtain ⟨h15, hf⟩ := gd_at hf
  refine r_zast (k := p1.toNatClampNeg) (f := isAt_7) C hK w 10 rfl h15 rfl (dk_at dkX6_beginsWalk 21 rfl) (fun H locs w => ?_)
  obtain ⟨isAt_16, eisAt_16⟩ : ∃ z : AI, z = upd isAt_7 p1.toNatClampNeg (vp_nar .boolean r13) := ⟨_, rfl⟩
  have hf := nm_at eisAt_16 hf
  have w : Wd g A Z.heap (wM g a_m st now_1 isKept hearers draft dHearers dWalls toldWinds tape taped pos frm sort value fault wrongAt landed_2 landedIn_3 stepped_4 isThere isAt_16 isNext landSum heardSum allWays ways drawn lanes sizes cells torn before) H locs := by rw [eisAt_16]; exact w
  cases hf
  exact fin _ _ _ _ (dk_at dkX6_beginsWalk 22 rfl) w
-- X6.walksOn
abbrev tbX6_walksOn : List (Nat × Instr × Nat) := [(0, .iconst 0, 1), (1, .istore_n 2, 1), (2, .iload_n 2, 1), (3, .bipush 64, 2), (5, .if_icmp .ge 99, 3), (8, .iload_n 2, 1), (9, .invokestatic 249, 3), (12, .istore_n 3, 1), (13, .aload_n 0, 1), (14, .getfield 38, 3), (17, .iload_n 3, 1), (18, .baload, 1), (19, .istore 4, 2), (21, .iconst 0, 1), (22, .istore 5, 2), (24, .iload 5, 2), (26, .iconst 4, 1), (27, .if_icmp .ge 46, 3), (30, .iload_n 3, 1), (31, .iload 5, 2), (33, .invokestatic 186, 3), (36, .istore 6, 2), (38, .iload 4, 2), (40, .ifCond .ne 20, 3), (43, .iload 6, 2), (45, .bipush (-4), 2), (47, .if_icmp .eq 17, 3), (50, .aload_n 0, 1), (51, .getfield 38, 3), (54, .iload 6, 2), (56, .baload, 1), (57, .ifCond .eq 7, 3), (60, .iconst 1, 1), (61, .goto 4, 3), (64, .iconst 0, 1), (65, .istore 4, 2), (67, .iinc 5 1, 3), (70, .goto (-46), 3), (73, .aload_n 0, 1), (74, .getfield 41, 3), (77, .iload_n 3, 1), (78, .iload 4, 2), (80, .ifCond .eq 16, 3), (83, .aload_n 0, 1), (84, .iload_n 3, 1), (85, .iload_n 1, 1), (86, .invokevirtual 262, 3), (89, .ifCond .eq 7, 3), (92, .iconst 1, 1), (93, .goto 4, 3), (96, .iconst 0, 1), (97, .bastore, 1), (98, .iinc 2 1, 3), (101, .goto (-99), 3), (104, .iconst 0, 1), (105, .istore_n 2, 1), (106, .iload_n 2, 1), (107, .bipush 64, 2), (109, .if_icmp .ge 27, 3), (112, .aload_n 0, 1), (113, .getfield 38, 3), (116, .iload_n 2, 1), (117, .invokestatic 249, 3), (120, .aload_n 0, 1), (121, .getfield 41, 3), (124, .iload_n 2, 1), (125, .invokestatic 249, 3), (128, .baload, 1), (129, .bastore, 1), (130, .iinc 2 1, 3), (133, .goto (-27), 3), (136, .return_, 1)]
theorem dkX6_walksOn : dk cX6_walksOn tbX6_walksOn := dk_of (by decide +kernel)
abbrev cdX6_walksOn : Cond := Cond.code yX6_walksOn cX6_walksOn 7 none
abbrev rmX6_walksOn : Room := { frames := 2, cells := 0, slots := 0, locals := 48 }
theorem mwX6_walksOn : Cond.instanceMethod yX6_walksOn ∈ wsL_law ∧ Cond.selects RX6 yX6_walksOn yX6_walksOn ∈ wsL_law ∧ Cond.initialized RX6 ∈ wsL_law ∧ cdX6_walksOn ∈ wsL_law := ⟨inr32 _ (List.mem_of_getElem? (i := 10) rfl), inr32 _ (List.mem_of_getElem? (i := 11) rfl), inr1 _ (List.mem_of_getElem? (i := 5) rfl), inr32 _ (List.mem_of_getElem? (i := 12) rfl)⟩
theorem hdX6_walksOn : yX6_walksOn.cls = RX6 ∧ yX6_walksOn.cls ≠ "java/lang/invoke/MethodHandle" ∧ yX6_walksOn.cls ≠ "java/lang/invoke/VarHandle" ∧ (parseMethodDescriptor yX6_walksOn.desc).map (fun d => d.parameters.length) = some 1 := by decide +kernel
set_option maxHeartbeats 4000000 in
set_option maxRecDepth 100000 in
theorem kX6_walksOn (l : Launch) (g : Gx) (sz : Nat) (a_m : Nat → Nat) (st : AI) (now : AI) (isKept : AI) (hearers : Int32) (draft : AI) (dHearers : Int32) (dWalls : Int32) (toldWinds : Int32) (tape : AI) (taped : Int32) (pos : Int32) (frm : Int32) (sort : Int32) (value : Int32) (fault : Int32) (wrongAt : Int32) (landed : AI) (landedIn : AI) (stepped : AI) (isThere : AI) (isAt : AI) (isNext : AI) (landSum : Int64) (heardSum : Int64) (allWays : Int64) (ways : AI) (drawn : AI) (lanes : AI) (sizes : AI) (cells : AI) (torn : Int32) (before : AI) (p1 : Int32) (isAt_o : AI) (isNext_o : AI) (hf : fX6_walksOn p1 st now landed landedIn isAt isNext = some (isAt_o, isNext_o)) : Met l yX6_walksOn (cdX6_walksOn :: wsL_law) rmX6_walksOn (va_Pc [.ref (a_m 0), .int p1] (RWp g sz (wM g a_m st now isKept hearers draft dHearers dWalls toldWinds tape taped pos frm sort value fault wrongAt landed landedIn stepped isThere isAt isNext landSum heardSum allWays ways drawn lanes sizes cells torn before))) (va_Qv (fun _ : Unit => True) (fun _ => RWq g (va_A (wM g a_m st now isKept hearers draft dHearers dWalls toldWinds tape taped pos frm sort value fault wrongAt landed landedIn stepped isThere isAt isNext landSum heardSum allWays ways drawn lanes sizes cells torn before) sz) (wM g a_m st now isKept hearers draft dHearers dWalls toldWinds tape taped pos frm sort value fault wrongAt landed landedIn stepped isThere isAt_o isNext_o landSum heardSum allWays ways drawn lanes sizes cells torn before)) (va_A (wM g a_m st now isKept hearers draft dHearers dWalls toldWinds tape taped pos frm sort value fault wrongAt landed landedIn stepped isThere isAt isNext landSum heardSum allWays ways drawn lanes sizes cells torn before) sz)) 0 0 (va_A (wM g a_m st now isKept hearers draft dHearers dWalls toldWinds tape taped pos frm sort value fault wrongAt landed landedIn stepped isThere isAt isNext landSum heardSum allWays ways drawn lanes sizes cells torn before) sz) := by
  refine Met_rwv (cc := cX6_walksOn) (maxL := 7) (by decide) rfl (Nat.le_of_ble_eq_true rfl) ?_
  intro P E Z Mi AR BE ME CO A Q C hK hA fin w ls hl
  have hl : lv_has ls 7 [(0, .ref (a_m 0)), (1, .int p1)] := hl
  unfold fX6_walksOn at hf
  refine lv_iconst (v := 0) C.1 C.2.1 (dk_at dkX6_walksOn 0 rfl) (by decide) ?_
  refine lv_istore_n (lv' := [(2, .int 0), (0, .ref (a_m 0)), (1, .int p1)]) C.1 C.2.1 (dk_at dkX6_walksOn 1 rfl) rfl hl (by decide) rfl (fun ls hl => ?_)
  have L3 : ∀ (K : Int32 → AI → Option (AI × AI)), (∀ (v1 : Int32) (isNext_2 : AI) (H : Heap) (locs : List Loc) (ls : Array Slot), Wd g A Z.heap (wM g a_m st now isKept hearers draft dHearers dWalls toldWinds tape taped pos frm sort value fault wrongAt landed landedIn stepped isThere isAt isNext_2 landSum heardSum allWays ways drawn lanes sizes cells torn before) H locs → lv_has ls 7 [(0, .ref (a_m 0))] → K v1 isNext_2 = some (isAt_o, isNext_o) → W P l E rmX6_walksOn Z Mi AR BE ME CO H locs 0 0 Q (F0 Mi 104 ls [])) → ∀ (n : Nat), ∀ (v1 : Int32) (isNext_2 : AI) (H : Heap) (locs : List Loc) (ls : Array Slot), Wd g A Z.heap (wM g a_m st now isKept hearers draft dHearers dWalls toldWinds tape taped pos frm sort value fault wrongAt landed landedIn stepped isThere isAt isNext_2 landSum heardSum allWays ways drawn lanes sizes cells torn before) H locs → lv_has ls 7 [(2, .int v1), (0, .ref (a_m 0)), (1, .int p1)] → fX6_walksOn_L2 st now landed landedIn isAt p1 K n v1 isNext_2 = some (isAt_o, isNext_o) → W P l E rmX6_walksOn Z Mi AR BE ME CO H locs 0 0 Q (F0 Mi 2 ls []) := by
    intro K hKe n
    induction n with
    | zero => intro v1 isNext_2 H locs ls w hl hf; cases hf
    | succ n ih =>
      intro v1 isNext_2 H locs ls w hl hf
      rw [fX6_walksOn_L2] at hf
      refine lv_iload_n C.1 C.2.1 (dk_at dkX6_walksOn 2 rfl) rfl (lv_at hl 0 rfl) ?_
      refine lv_bipush (v := 64) C.1 C.2.1 (dk_at dkX6_walksOn 3 rfl) (by decide) ?_
      refine lv_icmp_ge (tgt := 104) C.1 C.2.1 (dk_at dkX6_walksOn 4 rfl) (by decide) (fun c4 => ?_) (fun c4 => ?_)
      · have hf := (if_pos c4).symm.trans hf
        exact hKe v1 isNext_2 _ _ _ w (lv_sub hl [1] rfl) hf
      · have hf := (if_neg c4).symm.trans hf
        refine lv_iload_n C.1 C.2.1 (dk_at dkX6_walksOn 5 rfl) rfl (lv_at hl 0 rfl) ?_
        obtain ⟨r5, hq6, hf⟩ := bd1_at hf
        refine r_st (As := [.int v1]) (rest := []) C (kX6_cellAt l v1 r5 hq6) (cwS0 C (inr29 _ (List.mem_of_getElem? (i := 1) rfl)) mwX6_cellAt hdX6_cellAt ⟨Nat.le_of_ble_eq_true rfl, Nat.le_of_ble_eq_true rfl⟩) rfl hl.1 rfl (Nat.le_of_ble_eq_true rfl) ⟨Nat.zero_le _, Nat.zero_le _⟩ (dk_at dkX6_walksOn 6 rfl) ?_
        refine lv_istore_n (lv' := [(3, .int r5), (2, .int v1), (0, .ref (a_m 0)), (1, .int p1)]) C.1 C.2.1 (dk_at dkX6_walksOn 7 rfl) rfl hl (by decide) rfl (fun ls hl => ?_)
        refine lv_aload_n C.1 C.2.1 (dk_at dkX6_walksOn 8 rfl) rfl (lv_at hl 2 rfl) ?_
        refine r_get (v := .ref (a_m 10)) C hK w.1 (fun w h => List.mem_cons_of_mem _ (inlX6 w h)) 0 rfl rfl 20 (by decide) (List.mem_cons_of_mem _ (inr4 _ (List.mem_of_getElem? (i := 13) rfl))) rfl (dk_at dkX6_walksOn 9 rfl) ?_
        refine lv_iload_n C.1 C.2.1 (dk_at dkX6_walksOn 10 rfl) rfl (lv_at hl 0 rfl) ?_
        obtain ⟨h7, hf⟩ := gd_at hf
        refine r_zald (k := r5.toNatClampNeg) (f := isAt) C hK w.1 10 rfl h7 rfl (dk_at dkX6_walksOn 11 rfl) ?_
        refine lv_topi (fun x8 ex8 => ?_)
        have hf := nm_at ex8 hf
        refine lv_istore (lv' := [(4, .int x8), (3, .int r5), (2, .int v1), (0, .ref (a_m 0)), (1, .int p1)]) C.1 C.2.1 (dk_at dkX6_walksOn 12 rfl) hl (by decide) rfl (fun ls hl => ?_)
        refine lv_iconst (v := 0) C.1 C.2.1 (dk_at dkX6_walksOn 13 rfl) (by decide) ?_
        refine lv_istore (lv' := [(5, .int 0), (4, .int x8), (3, .int r5), (2, .int v1), (0, .ref (a_m 0)), (1, .int p1)]) C.1 C.2.1 (dk_at dkX6_walksOn 14 rfl) hl (by decide) rfl (fun ls hl => ?_)
        have L11 : ∀ (K : Int32 → Int32 → Option (AI × AI)), (∀ (v9 : Int32) (v10 : Int32) (H : Heap) (locs : List Loc) (ls : Array Slot), Wd g A Z.heap (wM g a_m st now isKept hearers draft dHearers dWalls toldWinds tape taped pos frm sort value fault wrongAt landed landedIn stepped isThere isAt isNext_2 landSum heardSum allWays ways drawn lanes sizes cells torn before) H locs → lv_has ls 7 [(4, .int v10), (3, .int r5), (2, .int v1), (0, .ref (a_m 0)), (1, .int p1)] → K v9 v10 = some (isAt_o, isNext_o) → W P l E rmX6_walksOn Z Mi AR BE ME CO H locs 0 0 Q (F0 Mi 73 ls [])) → ∀ (n : Nat), ∀ (v9 : Int32) (v10 : Int32) (H : Heap) (locs : List Loc) (ls : Array Slot), Wd g A Z.heap (wM g a_m st now isKept hearers draft dHearers dWalls toldWinds tape taped pos frm sort value fault wrongAt landed landedIn stepped isThere isAt isNext_2 landSum heardSum allWays ways drawn lanes sizes cells torn before) H locs → lv_has ls 7 [(5, .int v9), (4, .int v10), (3, .int r5), (2, .int v1), (0, .ref (a_m 0)), (1, .int p1)] → fX6_walksOn_L24 isAt r5 K n v9 v10 = some (isAt_o, isNext_o) → W P l E rmX6_walksOn Z Mi AR BE ME CO H locs 0 0 Q (F0 Mi 24 ls []) := by
          intro K hKe n
          induction n with
          | zero => intro v9 v10 H locs ls w hl hf; cases hf
          | succ n ih =>
            intro v9 v10 H locs ls w hl hf
            rw [fX6_walksOn_L24] at hf
            refine lv_iload C.1 C.2.1 (dk_at dkX6_walksOn 15 rfl) (lv_at hl 0 rfl) ?_
            refine lv_iconst (v := 4) C.1 C.2.1 (dk_at dkX6_walksOn 16 rfl) (by decide) ?_
            refine lv_icmp_ge (tgt := 73) C.1 C.2.1 (dk_at dkX6_walksOn 17 rfl) (by decide) (fun c12 => ?_) (fun c12 => ?_)
            · have hf := (if_pos c12).symm.trans hf
              exact hKe v9 v10 _ _ _ w (lv_sub hl [1, 2, 3, 4, 5] rfl) hf
            · have hf := (if_neg c12).symm.trans hf
              refine lv_iload_n C.1 C.2.1 (dk_at dkX6_walksOn 18 rfl) rfl (lv_at hl 2 rfl) ?_
              refine lv_iload C.1 C.2.1 (dk_at dkX6_walksOn 19 rfl) (lv_at hl 0 rfl) ?_
              obtain ⟨r13, hq14, hf⟩ := bd1_at hf
              refine r_st (As := [.int r5, .int v9]) (rest := []) C (kX6_beside l r5 v9 r13 hq14) (cwS0 C (inr25 _ (List.mem_of_getElem? (i := 17) rfl)) mwX6_beside hdX6_beside ⟨Nat.le_of_ble_eq_true rfl, Nat.le_of_ble_eq_true rfl⟩) rfl hl.1 rfl (Nat.le_of_ble_eq_true rfl) ⟨Nat.zero_le _, Nat.zero_le _⟩ (dk_at dkX6_walksOn 20 rfl) ?_
              refine lv_istore (lv' := [(6, .int r13), (5, .int v9), (4, .int v10), (3, .int r5), (2, .int v1), (0, .ref (a_m 0)), (1, .int p1)]) C.1 C.2.1 (dk_at dkX6_walksOn 21 rfl) hl (by decide) rfl (fun ls hl => ?_)
              refine lv_iload C.1 C.2.1 (dk_at dkX6_walksOn 22 rfl) (lv_at hl 2 rfl) ?_
              refine lv_if_ne (tgt := 60) C.1 C.2.1 (dk_at dkX6_walksOn 23 rfl) (by decide) (fun c15 => ?_) (fun c15 => ?_)
              · have hf := (if_neg c15).symm.trans hf
                refine lv_iconst (v := 1) C.1 C.2.1 (dk_at dkX6_walksOn 32 rfl) (by decide) ?_
                refine lv_goto (tgt := 65) C.1 C.2.1 (dk_at dkX6_walksOn 33 rfl) (by decide) ?_
                refine lv_istore (lv' := [(4, .int 1), (6, .int r13), (5, .int v9), (3, .int r5), (2, .int v1), (0, .ref (a_m 0)), (1, .int p1)]) C.1 C.2.1 (dk_at dkX6_walksOn 35 rfl) hl (by decide) rfl (fun ls hl => ?_)
                obtain ⟨x16, ex16⟩ : ∃ z : Int32, z = v9 + 1 := ⟨_, rfl⟩
                have hf := nm_at ex16 hf
                refine lv_iinc (v := x16) (lv' := [(5, .int x16), (4, .int 1), (6, .int r13), (3, .int r5), (2, .int v1), (0, .ref (a_m 0)), (1, .int p1)]) C.1 C.2.1 (dk_at dkX6_walksOn 36 rfl) hl (k := 2) rfl (by rw [ex16]; rfl) (by decide) rfl (fun ls hl => ?_)
                refine lv_goto (tgt := 24) C.1 C.2.1 (dk_at dkX6_walksOn 37 rfl) (by decide) ?_
                exact ih x16 1 _ _ _ w (lv_sub hl [0, 1, 3, 4, 5, 6] rfl) hf
              · have hf := (if_pos c15).symm.trans hf
                refine lv_iload C.1 C.2.1 (dk_at dkX6_walksOn 24 rfl) (lv_at hl 0 rfl) ?_
                refine lv_bipush (v := (-4)) C.1 C.2.1 (dk_at dkX6_walksOn 25 rfl) (by decide) ?_
                refine lv_icmp_eq (tgt := 64) C.1 C.2.1 (dk_at dkX6_walksOn 26 rfl) (by decide) (fun c17 => ?_) (fun c17 => ?_)
                · have hf := (if_pos c17).symm.trans hf
                  refine lv_iconst (v := 0) C.1 C.2.1 (dk_at dkX6_walksOn 34 rfl) (by decide) ?_
                  refine lv_istore (lv' := [(4, .int 0), (6, .int r13), (5, .int v9), (3, .int r5), (2, .int v1), (0, .ref (a_m 0)), (1, .int p1)]) C.1 C.2.1 (dk_at dkX6_walksOn 35 rfl) hl (by decide) rfl (fun ls hl => ?_)
                  obtain ⟨x18, ex18⟩ : ∃ z : Int32, z = v9 + 1 := ⟨_, rfl⟩
                  have hf := nm_at ex18 hf
                  refine lv_iinc (v := x18) (lv' := [(5, .int x18), (4, .int 0), (6, .int r13), (3, .int r5), (2, .int v1), (0, .ref (a_m 0)), (1, .int p1)]) C.1 C.2.1 (dk_at dkX6_walksOn 36 rfl) hl (k := 2) rfl (by rw [ex18]; rfl) (by decide) rfl (fun ls hl => ?_)
                  refine lv_goto (tgt := 24) C.1 C.2.1 (dk_at dkX6_walksOn 37 rfl) (by decide) ?_
                  exact ih x18 0 _ _ _ w (lv_sub hl [0, 1, 3, 4, 5, 6] rfl) hf
                · have hf := (if_neg c17).symm.trans hf
                  refine lv_aload_n C.1 C.2.1 (dk_at dkX6_walksOn 27 rfl) rfl (lv_at hl 5 rfl) ?_
                  refine r_get (v := .ref (a_m 10)) C hK w.1 (fun w h => List.mem_cons_of_mem _ (inlX6 w h)) 0 rfl rfl 20 (by decide) (List.mem_cons_of_mem _ (inr4 _ (List.mem_of_getElem? (i := 13) rfl))) rfl (dk_at dkX6_walksOn 28 rfl) ?_
                  refine lv_iload C.1 C.2.1 (dk_at dkX6_walksOn 29 rfl) (lv_at hl 0 rfl) ?_
                  obtain ⟨h19, hf⟩ := gd_at hf
                  refine r_zald (k := r13.toNatClampNeg) (f := isAt) C hK w.1 10 rfl h19 rfl (dk_at dkX6_walksOn 30 rfl) ?_
                  refine lv_if_eq (tgt := 64) C.1 C.2.1 (dk_at dkX6_walksOn 31 rfl) (by decide) (fun c20 => ?_) (fun c20 => ?_)
                  · have hf := (if_pos c20).symm.trans hf
                    refine lv_iconst (v := 0) C.1 C.2.1 (dk_at dkX6_walksOn 34 rfl) (by decide) ?_
                    refine lv_istore (lv' := [(4, .int 0), (6, .int r13), (5, .int v9), (3, .int r5), (2, .int v1), (0, .ref (a_m 0)), (1, .int p1)]) C.1 C.2.1 (dk_at dkX6_walksOn 35 rfl) hl (by decide) rfl (fun ls hl => ?_)
                    obtain ⟨x21, ex21⟩ : ∃ z : Int32, z = v9 + 1 := ⟨_, rfl⟩
                    have hf := nm_at ex21 hf
                    refine lv_iinc (v := x21) (lv' := [(5, .int x21), (4, .int 0), (6, .int r13), (3, .int r5), (2, .int v1), (0, .ref (a_m 0)), (1, .int p1)]) C.1 C.2.1 (dk_at dkX6_walksOn 36 rfl) hl (k := 2) rfl (by rw [ex21]; rfl) (by decide) rfl (fun ls hl => ?_)
                    refine lv_goto (tgt := 24) C.1 C.2.1 (dk_at dkX6_walksOn 37 rfl) (by decide) ?_
                    exact ih x21 0 _ _ _ w (lv_sub hl [0, 1, 3, 4, 5, 6] rfl) hf
                  · have hf := (if_neg c20).symm.trans hf
                    refine lv_iconst (v := 1) C.1 C.2.1 (dk_at dkX6_walksOn 32 rfl) (by decide) ?_
                    refine lv_goto (tgt := 65) C.1 C.2.1 (dk_at dkX6_walksOn 33 rfl) (by decide) ?_
                    refine lv_istore (lv' := [(4, .int 1), (6, .int r13), (5, .int v9), (3, .int r5), (2, .int v1), (0, .ref (a_m 0)), (1, .int p1)]) C.1 C.2.1 (dk_at dkX6_walksOn 35 rfl) hl (by decide) rfl (fun ls hl => ?_)
                    obtain ⟨x22, ex22⟩ : ∃ z : Int32, z = v9 + 1 := ⟨_, rfl⟩
                    have hf := nm_at ex22 hf
                    refine lv_iinc (v := x22) (lv' := [(5, .int x22), (4, .int 1), (6, .int r13), (3, .int r5), (2, .int v1), (0, .ref (a_m 0)), (1, .int p1)]) C.1 C.2.1 (dk_at dkX6_walksOn 36 rfl) hl (k := 2) rfl (by rw [ex22]; rfl) (by decide) rfl (fun ls hl => ?_)
                    refine lv_goto (tgt := 24) C.1 C.2.1 (dk_at dkX6_walksOn 37 rfl) (by decide) ?_
                    exact ih x22 1 _ _ _ w (lv_sub hl [0, 1, 3, 4, 5, 6] rfl) hf
        refine L11 _ ?_ 4096 0 x8 _ _ _ w (lv_sub hl [0, 1, 2, 3, 4, 5] rfl) hf
        clear hf
        intro v9 v10 H locs ls w hl hf
        refine lv_aload_n C.1 C.2.1 (dk_at dkX6_walksOn 38 rfl) rfl (lv_at hl 3 rfl) ?_
        refine r_get (v := .ref (a_m 11)) C hK w.1 (fun w h => List.mem_cons_of_mem _ (inlX6 w h)) 0 rfl rfl 21 (by decide) (List.mem_cons_of_mem _ (inr4 _ (List.mem_of_getElem? (i := 14) rfl))) rfl (dk_at dkX6_walksOn 39 rfl) ?_
        refine lv_iload_n C.1 C.2.1 (dk_at dkX6_walksOn 40 rfl) rfl (lv_at hl 1 rfl) ?_
        refine lv_iload C.1 C.2.1 (dk_at dkX6_walksOn 41 rfl) (lv_at hl 0 rfl) ?_
        refine lv_if_eq (tgt := 96) C.1 C.2.1 (dk_at dkX6_walksOn 42 rfl) (by decide) (fun c23 => ?_) (fun c23 => ?_)
        · have hf := (if_pos c23).symm.trans hf
          refine lv_iconst (v := 0) C.1 C.2.1 (dk_at dkX6_walksOn 50 rfl) (by decide) ?_
          obtain ⟨h24, hf⟩ := gd_at hf
          refine r_zast (k := r5.toNatClampNeg) (f := isNext_2) C hK w 11 rfl h24 rfl (dk_at dkX6_walksOn 51 rfl) (fun H locs w => ?_)
          obtain ⟨isNext_25, eisNext_25⟩ : ∃ z : AI, z = upd isNext_2 r5.toNatClampNeg (vp_nar .boolean 0) := ⟨_, rfl⟩
          have hf := nm_at eisNext_25 hf
          have w : Wd g A Z.heap (wM g a_m st now isKept hearers draft dHearers dWalls toldWinds tape taped pos frm sort value fault wrongAt landed landedIn stepped isThere isAt isNext_25 landSum heardSum allWays ways drawn lanes sizes cells torn before) H locs := by rw [eisNext_25]; exact w
          obtain ⟨x26, ex26⟩ : ∃ z : Int32, z = v1 + 1 := ⟨_, rfl⟩
          have hf := nm_at ex26 hf
          refine lv_iinc (v := x26) (lv' := [(2, .int x26), (4, .int v10), (3, .int r5), (0, .ref (a_m 0)), (1, .int p1)]) C.1 C.2.1 (dk_at dkX6_walksOn 52 rfl) hl (k := 2) rfl (by rw [ex26]; rfl) (by decide) rfl (fun ls hl => ?_)
          refine lv_goto (tgt := 2) C.1 C.2.1 (dk_at dkX6_walksOn 53 rfl) (by decide) ?_
          exact ih x26 isNext_25 _ _ _ w (lv_sub hl [0, 3, 4] rfl) hf
        · have hf := (if_neg c23).symm.trans hf
          refine lv_aload_n C.1 C.2.1 (dk_at dkX6_walksOn 43 rfl) rfl (lv_at hl 3 rfl) ?_
          refine lv_iload_n C.1 C.2.1 (dk_at dkX6_walksOn 44 rfl) rfl (lv_at hl 1 rfl) ?_
          refine lv_iload_n C.1 C.2.1 (dk_at dkX6_walksOn 45 rfl) rfl (lv_at hl 4 rfl) ?_
          obtain ⟨r27, hq28, hf⟩ := bd1_at hf
          refine r_roV (As := [.int r5, .int p1]) (rest := [.int r5, .ref (a_m 11)]) C (kX6_isFree l g a_m st now isKept hearers draft dHearers dWalls toldWinds tape taped pos frm sort value fault wrongAt landed landedIn stepped isThere isAt isNext_2 landSum heardSum allWays ways drawn lanes sizes cells torn before r5 p1 r27 hq28) (cwV0 C (inr32 _ (List.mem_of_getElem? (i := 5) rfl)) mwX6_isFree hdX6_isFree ⟨Nat.le_of_ble_eq_true rfl, Nat.le_of_ble_eq_true rfl⟩) hK w.1 rfl rfl rfl hl.1 rfl (Nat.le_of_ble_eq_true rfl) ⟨Nat.zero_le _, Nat.zero_le _⟩ (dk_at dkX6_walksOn 46 rfl) ?_
          refine lv_if_eq (tgt := 96) C.1 C.2.1 (dk_at dkX6_walksOn 47 rfl) (by decide) (fun c29 => ?_) (fun c29 => ?_)
          · have hf := (if_pos c29).symm.trans hf
            refine lv_iconst (v := 0) C.1 C.2.1 (dk_at dkX6_walksOn 50 rfl) (by decide) ?_
            obtain ⟨h30, hf⟩ := gd_at hf
            refine r_zast (k := r5.toNatClampNeg) (f := isNext_2) C hK w 11 rfl h30 rfl (dk_at dkX6_walksOn 51 rfl) (fun H locs w => ?_)
            obtain ⟨isNext_31, eisNext_31⟩ : ∃ z : AI, z = upd isNext_2 r5.toNatClampNeg (vp_nar .boolean 0) := ⟨_, rfl⟩
            have hf := nm_at eisNext_31 hf
            have w : Wd g A Z.heap (wM g a_m st now isKept hearers draft dHearers dWalls toldWinds tape taped pos frm sort value fault wrongAt landed landedIn stepped isThere isAt isNext_31 landSum heardSum allWays ways drawn lanes sizes cells torn before) H locs := by rw [eisNext_31]; exact w
            obtain ⟨x32, ex32⟩ : ∃ z : Int32, z = v1 + 1 := ⟨_, rfl⟩
            have hf := nm_at ex32 hf
            refine lv_iinc (v := x32) (lv' := [(2, .int x32), (4, .int v10), (3, .int r5), (0, .ref (a_m 0)), (1, .int p1)]) C.1 C.2.1 (dk_at dkX6_walksOn 52 rfl) hl (k := 2) rfl (by rw [ex32]; rfl) (by decide) rfl (fun ls hl => ?_)
            refine lv_goto (tgt := 2) C.1 C.2.1 (dk_at dkX6_walksOn 53 rfl) (by decide) ?_
            exact ih x32 isNext_31 _ _ _ w (lv_sub hl [0, 3, 4] rfl) hf
          · have hf := (if_neg c29).symm.trans hf
            refine lv_iconst (v := 1) C.1 C.2.1 (dk_at dkX6_walksOn 48 rfl) (by decide) ?_
            refine lv_goto (tgt := 97) C.1 C.2.1 (dk_at dkX6_walksOn 49 rfl) (by decide) ?_
            obtain ⟨h33, hf⟩ := gd_at hf
            refine r_zast (k := r5.toNatClampNeg) (f := isNext_2) C hK w 11 rfl h33 rfl (dk_at dkX6_walksOn 51 rfl) (fun H locs w => ?_)
            obtain ⟨isNext_34, eisNext_34⟩ : ∃ z : AI, z = upd isNext_2 r5.toNatClampNeg (vp_nar .boolean 1) := ⟨_, rfl⟩
            have hf := nm_at eisNext_34 hf
            have w : Wd g A Z.heap (wM g a_m st now isKept hearers draft dHearers dWalls toldWinds tape taped pos frm sort value fault wrongAt landed landedIn stepped isThere isAt isNext_34 landSum heardSum allWays ways drawn lanes sizes cells torn before) H locs := by rw [eisNext_34]; exact w
            obtain ⟨x35, ex35⟩ : ∃ z : Int32, z = v1 + 1 := ⟨_, rfl⟩
            have hf := nm_at ex35 hf
            refine lv_iinc (v := x35) (lv' := [(2, .int x35), (4, .int v10), (3, .int r5), (0, .ref (a_m 0)), (1, .int p1)]) C.1 C.2.1 (dk_at dkX6_walksOn 52 rfl) hl (k := 2) rfl (by rw [ex35]; rfl) (by decide) rfl (fun ls hl => ?_)
            refine lv_goto (tgt := 2) C.1 C.2.1 (dk_at dkX6_walksOn 53 rfl) (by decide) ?_
            exact ih x35 isNext_34 _ _ _ w (lv_sub hl [0, 3, 4] rfl) hf
  refine L3 _ ?_ 4096 0 isNext _ _ _ w (lv_sub hl [0, 1, 2] rfl) hf
  clear hf
  intro v1 isNext_2 H locs ls w hl hf
  refine lv_iconst (v := 0) C.1 C.2.1 (dk_at dkX6_walksOn 54 rfl) (by decide) ?_
  refine lv_istore_n (lv' := [(2, .int 0), (0, .ref (a_m 0))]) C.1 C.2.1 (dk_at dkX6_walksOn 55 rfl) rfl hl (by decide) rfl (fun ls hl => ?_)
  have L38 : ∀ (K : Int32 → AI → Option (AI × AI)), (∀ (v36 : Int32) (isAt_37 : AI) (H : Heap) (locs : List Loc) (ls : Array Slot), Wd g A Z.heap (wM g a_m st now isKept hearers draft dHearers dWalls toldWinds tape taped pos frm sort value fault wrongAt landed landedIn stepped isThere isAt_37 isNext_2 landSum heardSum allWays ways drawn lanes sizes cells torn before) H locs → lv_has ls 7 [] → K v36 isAt_37 = some (isAt_o, isNext_o) → W P l E rmX6_walksOn Z Mi AR BE ME CO H locs 0 0 Q (F0 Mi 136 ls [])) → ∀ (n : Nat), ∀ (v36 : Int32) (isAt_37 : AI) (H : Heap) (locs : List Loc) (ls : Array Slot), Wd g A Z.heap (wM g a_m st now isKept hearers draft dHearers dWalls toldWinds tape taped pos frm sort value fault wrongAt landed landedIn stepped isThere isAt_37 isNext_2 landSum heardSum allWays ways drawn lanes sizes cells torn before) H locs → lv_has ls 7 [(2, .int v36), (0, .ref (a_m 0))] → fX6_walksOn_L106 isNext_2 K n v36 isAt_37 = some (isAt_o, isNext_o) → W P l E rmX6_walksOn Z Mi AR BE ME CO H locs 0 0 Q (F0 Mi 106 ls []) := by
    intro K hKe n
    induction n with
    | zero => intro v36 isAt_37 H locs ls w hl hf; cases hf
    | succ n ih =>
      intro v36 isAt_37 H locs ls w hl hf
      rw [fX6_walksOn_L106] at hf
      refine lv_iload_n C.1 C.2.1 (dk_at dkX6_walksOn 56 rfl) rfl (lv_at hl 0 rfl) ?_
      refine lv_bipush (v := 64) C.1 C.2.1 (dk_at dkX6_walksOn 57 rfl) (by decide) ?_
      refine lv_icmp_ge (tgt := 136) C.1 C.2.1 (dk_at dkX6_walksOn 58 rfl) (by decide) (fun c39 => ?_) (fun c39 => ?_)
      · have hf := (if_pos c39).symm.trans hf
        exact hKe v36 isAt_37 _ _ _ w (lv_sub hl [] rfl) hf
      · have hf := (if_neg c39).symm.trans hf
        refine lv_aload_n C.1 C.2.1 (dk_at dkX6_walksOn 59 rfl) rfl (lv_at hl 1 rfl) ?_
        refine r_get (v := .ref (a_m 10)) C hK w.1 (fun w h => List.mem_cons_of_mem _ (inlX6 w h)) 0 rfl rfl 20 (by decide) (List.mem_cons_of_mem _ (inr4 _ (List.mem_of_getElem? (i := 13) rfl))) rfl (dk_at dkX6_walksOn 60 rfl) ?_
        refine lv_iload_n C.1 C.2.1 (dk_at dkX6_walksOn 61 rfl) rfl (lv_at hl 0 rfl) ?_
        obtain ⟨r40, hq41, hf⟩ := bd1_at hf
        refine r_st (As := [.int v36]) (rest := [.ref (a_m 10)]) C (kX6_cellAt l v36 r40 hq41) (cwS0 C (inr29 _ (List.mem_of_getElem? (i := 1) rfl)) mwX6_cellAt hdX6_cellAt ⟨Nat.le_of_ble_eq_true rfl, Nat.le_of_ble_eq_true rfl⟩) rfl hl.1 rfl (Nat.le_of_ble_eq_true rfl) ⟨Nat.zero_le _, Nat.zero_le _⟩ (dk_at dkX6_walksOn 62 rfl) ?_
        refine lv_aload_n C.1 C.2.1 (dk_at dkX6_walksOn 63 rfl) rfl (lv_at hl 1 rfl) ?_
        refine r_get (v := .ref (a_m 11)) C hK w.1 (fun w h => List.mem_cons_of_mem _ (inlX6 w h)) 0 rfl rfl 21 (by decide) (List.mem_cons_of_mem _ (inr4 _ (List.mem_of_getElem? (i := 14) rfl))) rfl (dk_at dkX6_walksOn 64 rfl) ?_
        refine lv_iload_n C.1 C.2.1 (dk_at dkX6_walksOn 65 rfl) rfl (lv_at hl 0 rfl) ?_
        obtain ⟨r42, hq43, hf⟩ := bd1_at hf
        refine r_st (As := [.int v36]) (rest := [.ref (a_m 11), .int r40, .ref (a_m 10)]) C (kX6_cellAt l v36 r42 hq43) (cwS0 C (inr29 _ (List.mem_of_getElem? (i := 1) rfl)) mwX6_cellAt hdX6_cellAt ⟨Nat.le_of_ble_eq_true rfl, Nat.le_of_ble_eq_true rfl⟩) rfl hl.1 rfl (Nat.le_of_ble_eq_true rfl) ⟨Nat.zero_le _, Nat.zero_le _⟩ (dk_at dkX6_walksOn 66 rfl) ?_
        obtain ⟨h44, hf⟩ := gd_at hf
        refine r_zald (k := r42.toNatClampNeg) (f := isNext_2) C hK w.1 11 rfl h44 rfl (dk_at dkX6_walksOn 67 rfl) ?_
        refine lv_topi (fun x45 ex45 => ?_)
        have hf := nm_at ex45 hf
        obtain ⟨h46, hf⟩ := gd_at hf
        refine r_zast (k := r40.toNatClampNeg) (f := isAt_37) C hK w 10 rfl h46 rfl (dk_at dkX6_walksOn 68 rfl) (fun H locs w => ?_)
        obtain ⟨isAt_47, eisAt_47⟩ : ∃ z : AI, z = upd isAt_37 r40.toNatClampNeg (vp_nar .boolean x45) := ⟨_, rfl⟩
        have hf := nm_at eisAt_47 hf
        have w : Wd g A Z.heap (wM g a_m st now isKept hearers draft dHearers dWalls toldWinds tape taped pos frm sort value fault wrongAt landed landedIn stepped isThere isAt_47 isNext_2 landSum heardSum allWays ways drawn lanes sizes cells torn before) H locs := by rw [eisAt_47]; exact w
        obtain ⟨x48, ex48⟩ : ∃ z : Int32, z = v36 + 1 := ⟨_, rfl⟩
        have hf := nm_at ex48 hf
        refine lv_iinc (v := x48) (lv' := [(2, .int x48), (0, .ref (a_m 0))]) C.1 C.2.1 (dk_at dkX6_walksOn 69 rfl) hl (k := 0) rfl (by rw [ex48]; rfl) (by decide) rfl (fun ls hl => ?_)
        refine lv_goto (tgt := 106) C.1 C.2.1 (dk_at dkX6_walksOn 70 rfl) (by decide) ?_
        exact ih x48 isAt_47 _ _ _ w (lv_sub hl [0, 1] rfl) hf
  refine L38 _ ?_ 4096 0 isAt _ _ _ w (lv_sub hl [0, 1] rfl) hf
  clear hf
  intro v36 isAt_37 H locs ls w hl hf
  cases hf
  exact fin _ _ _ _ (dk_at dkX6_walksOn 71 rfl) w
-- X6.walk
abbrev tbX6_walk : List (Nat × Instr × Nat) := [(0, .iload_n 1, 1), (1, .invokestatic 140, 3), (4, .ifCond .eq 10, 3), (7, .iload_n 2, 1), (8, .invokestatic 140, 3), (11, .ifCond .ne 5, 3), (14, .iconst (-1), 1), (15, .ireturn, 1), (16, .aload_n 0, 1), (17, .iload_n 1, 1), (18, .invokevirtual 265, 3), (21, .iconst 0, 1), (22, .istore_n 3, 1), (23, .iload_n 3, 1), (24, .bipush 10, 2), (26, .if_icmp .ge 29, 3), (29, .iload_n 3, 1), (30, .ifCond .le 8, 3), (33, .aload_n 0, 1), (34, .iload_n 3, 1), (35, .invokevirtual 268, 3), (38, .aload_n 0, 1), (39, .getfield 38, 3), (42, .iload_n 2, 1), (43, .baload, 1), (44, .ifCond .eq 5, 3), (47, .iload_n 3, 1), (48, .ireturn, 1), (49, .iinc 3 1, 3), (52, .goto (-29), 3), (55, .bipush (-4), 2), (57, .ireturn, 1)]
theorem dkX6_walk : dk cX6_walk tbX6_walk := dk_of (by decide +kernel)
abbrev cdX6_walk : Cond := Cond.code yX6_walk cX6_walk 4 (some .int)
abbrev rmX6_walk : Room := { frames := 6, cells := 0, slots := 0, locals := 139 }
theorem mwX6_walk : Cond.instanceMethod yX6_walk ∈ wsL_law ∧ Cond.selects RX6 yX6_walk yX6_walk ∈ wsL_law ∧ Cond.initialized RX6 ∈ wsL_law ∧ cdX6_walk ∈ wsL_law := ⟨inr31 _ (List.mem_of_getElem? (i := 22) rfl), inr31 _ (List.mem_of_getElem? (i := 23) rfl), inr1 _ (List.mem_of_getElem? (i := 5) rfl), inr32 _ (List.mem_of_getElem? (i := 0) rfl)⟩
theorem hdX6_walk : yX6_walk.cls = RX6 ∧ yX6_walk.cls ≠ "java/lang/invoke/MethodHandle" ∧ yX6_walk.cls ≠ "java/lang/invoke/VarHandle" ∧ (parseMethodDescriptor yX6_walk.desc).map (fun d => d.parameters.length) = some 2 := by decide +kernel
set_option maxHeartbeats 4000000 in
set_option maxRecDepth 100000 in
theorem kX6_walk (l : Launch) (g : Gx) (sz : Nat) (a_m : Nat → Nat) (st : AI) (now : AI) (isKept : AI) (hearers : Int32) (draft : AI) (dHearers : Int32) (dWalls : Int32) (toldWinds : Int32) (tape : AI) (taped : Int32) (pos : Int32) (frm : Int32) (sort : Int32) (value : Int32) (fault : Int32) (wrongAt : Int32) (landed : AI) (landedIn : AI) (stepped : AI) (isThere : AI) (isAt : AI) (isNext : AI) (landSum : Int64) (heardSum : Int64) (allWays : Int64) (ways : AI) (drawn : AI) (lanes : AI) (sizes : AI) (cells : AI) (torn : Int32) (before : AI) (p1 : Int32) (p2 : Int32) (res : Int32) (now_o : AI) (landed_o : AI) (landedIn_o : AI) (stepped_o : AI) (isAt_o : AI) (isNext_o : AI) (hf : fX6_walk p1 p2 st now landed landedIn stepped isAt isNext = some (res, now_o, landed_o, landedIn_o, stepped_o, isAt_o, isNext_o)) : Met l yX6_walk (cdX6_walk :: wsL_law) rmX6_walk (va_Pc [.ref (a_m 0), .int p1, .int p2] (RWp g sz (wM g a_m st now isKept hearers draft dHearers dWalls toldWinds tape taped pos frm sort value fault wrongAt landed landedIn stepped isThere isAt isNext landSum heardSum allWays ways drawn lanes sizes cells torn before))) (va_Qi (fun x (_ : Unit) => x = res) (fun _ => RWq g (va_A (wM g a_m st now isKept hearers draft dHearers dWalls toldWinds tape taped pos frm sort value fault wrongAt landed landedIn stepped isThere isAt isNext landSum heardSum allWays ways drawn lanes sizes cells torn before) sz) (wM g a_m st now_o isKept hearers draft dHearers dWalls toldWinds tape taped pos frm sort value fault wrongAt landed_o landedIn_o stepped_o isThere isAt_o isNext_o landSum heardSum allWays ways drawn lanes sizes cells torn before)) (va_A (wM g a_m st now isKept hearers draft dHearers dWalls toldWinds tape taped pos frm sort value fault wrongAt landed landedIn stepped isThere isAt isNext landSum heardSum allWays ways drawn lanes sizes cells torn before) sz)) 0 0 (va_A (wM g a_m st now isKept hearers draft dHearers dWalls toldWinds tape taped pos frm sort value fault wrongAt landed landedIn stepped isThere isAt isNext landSum heardSum allWays ways drawn lanes sizes cells torn before) sz) := by
  refine Met_rwi (cc := cX6_walk) (maxL := 4) (by decide) rfl (Nat.le_of_ble_eq_true rfl) ?_
  intro P E Z Mi AR BE ME CO A Q C hK hA fin w ls hl
  have hl : lv_has ls 4 [(0, .ref (a_m 0)), (1, .int p1), (2, .int p2)] := hl
  unfold fX6_walk at hf
  refine lv_iload_n C.1 C.2.1 (dk_at dkX6_walk 0 rfl) rfl (lv_at hl 1 rfl) ?_
  obtain ⟨r1, hq2, hf⟩ := bd1_at hf
  refine r_st (As := [.int p1]) (rest := []) C (kX6_isCell l p1 r1 hq2) (cwS0 C (inr15 _ (List.mem_of_getElem? (i := 8) rfl)) mwX6_isCell hdX6_isCell ⟨Nat.le_of_ble_eq_true rfl, Nat.le_of_ble_eq_true rfl⟩) rfl hl.1 rfl (Nat.le_of_ble_eq_true rfl) ⟨Nat.zero_le _, Nat.zero_le _⟩ (dk_at dkX6_walk 1 rfl) ?_
  refine lv_if_eq (tgt := 14) C.1 C.2.1 (dk_at dkX6_walk 2 rfl) (by decide) (fun c3 => ?_) (fun c3 => ?_)
  · have hf := (if_pos c3).symm.trans hf
    refine lv_iconst (v := (-1)) C.1 C.2.1 (dk_at dkX6_walk 6 rfl) (by decide) ?_
    cases hf
    exact fin _ _ _ _ _ (dk_at dkX6_walk 7 rfl) rfl w
  · have hf := (if_neg c3).symm.trans hf
    refine lv_iload_n C.1 C.2.1 (dk_at dkX6_walk 3 rfl) rfl (lv_at hl 2 rfl) ?_
    obtain ⟨r4, hq5, hf⟩ := bd1_at hf
    refine r_st (As := [.int p2]) (rest := []) C (kX6_isCell l p2 r4 hq5) (cwS0 C (inr15 _ (List.mem_of_getElem? (i := 8) rfl)) mwX6_isCell hdX6_isCell ⟨Nat.le_of_ble_eq_true rfl, Nat.le_of_ble_eq_true rfl⟩) rfl hl.1 rfl (Nat.le_of_ble_eq_true rfl) ⟨Nat.zero_le _, Nat.zero_le _⟩ (dk_at dkX6_walk 4 rfl) ?_
    refine lv_if_ne (tgt := 16) C.1 C.2.1 (dk_at dkX6_walk 5 rfl) (by decide) (fun c6 => ?_) (fun c6 => ?_)
    · have hf := (if_neg c6).symm.trans hf
      refine lv_aload_n C.1 C.2.1 (dk_at dkX6_walk 8 rfl) rfl (lv_at hl 0 rfl) ?_
      refine lv_iload_n C.1 C.2.1 (dk_at dkX6_walk 9 rfl) rfl (lv_at hl 1 rfl) ?_
      obtain ⟨now_7, landed_8, landedIn_9, stepped_10, isAt_11, hq12, hf⟩ := bd5_at hf
      refine r_rwv (As := [.int p1]) (rest := []) (wr := []) (ws' := wM g a_m st now_7 isKept hearers draft dHearers dWalls toldWinds tape taped pos frm sort value fault wrongAt landed_8 landedIn_9 stepped_10 isThere isAt_11 isNext landSum heardSum allWays ways drawn lanes sizes cells torn before) C (kX6_beginsWalk l g _ a_m st now isKept hearers draft dHearers dWalls toldWinds tape taped pos frm sort value fault wrongAt landed landedIn stepped isThere isAt isNext landSum heardSum allWays ways drawn lanes sizes cells torn before p1 now_7 landed_8 landedIn_9 stepped_10 isAt_11 hq12) (cwV0 C (inr32 _ (List.mem_of_getElem? (i := 1) rfl)) mwX6_beginsWalk hdX6_beginsWalk ⟨Nat.le_of_ble_eq_true rfl, Nat.le_of_ble_eq_true rfl⟩) hK w hA [0, 1, 2, 3, 4, 5, 6, 7, 8, 9, 10, 11, 12, 13, 14, 15, 16, 17] [] [0, 1, 2, 3, 4, 5, 6, 7, 8, 9, 10, 11, 12, 13, 14, 15, 16, 17] (by decide) rfl rfl (by decide) (by decide) rfl (by decide) rfl rfl rfl hl.1 rfl (Nat.le_of_ble_eq_true rfl) ⟨Nat.zero_le _, Nat.zero_le _⟩ (dk_at dkX6_walk 10 rfl) (fun H locs w => ?_)
      refine lv_iconst (v := 0) C.1 C.2.1 (dk_at dkX6_walk 11 rfl) (by decide) ?_
      refine lv_istore_n (lv' := [(3, .int 0), (0, .ref (a_m 0)), (1, .int p1), (2, .int p2)]) C.1 C.2.1 (dk_at dkX6_walk 12 rfl) rfl hl (by decide) rfl (fun ls hl => ?_)
      have L16 : ∀ (K : Int32 → AI → AI → Option (Int32 × AI × AI × AI × AI × AI × AI)), (∀ (v13 : Int32) (isAt_14 : AI) (isNext_15 : AI) (H : Heap) (locs : List Loc) (ls : Array Slot), Wd g A Z.heap (wM g a_m st now_7 isKept hearers draft dHearers dWalls toldWinds tape taped pos frm sort value fault wrongAt landed_8 landedIn_9 stepped_10 isThere isAt_14 isNext_15 landSum heardSum allWays ways drawn lanes sizes cells torn before) H locs → lv_has ls 4 [] → K v13 isAt_14 isNext_15 = some (res, now_o, landed_o, landedIn_o, stepped_o, isAt_o, isNext_o) → W P l E rmX6_walk Z Mi AR BE ME CO H locs 0 0 Q (F0 Mi 55 ls [])) → ∀ (n : Nat), ∀ (v13 : Int32) (isAt_14 : AI) (isNext_15 : AI) (H : Heap) (locs : List Loc) (ls : Array Slot), Wd g A Z.heap (wM g a_m st now_7 isKept hearers draft dHearers dWalls toldWinds tape taped pos frm sort value fault wrongAt landed_8 landedIn_9 stepped_10 isThere isAt_14 isNext_15 landSum heardSum allWays ways drawn lanes sizes cells torn before) H locs → lv_has ls 4 [(3, .int v13), (0, .ref (a_m 0)), (2, .int p2)] → fX6_walk_L23 st p2 now_7 landed_8 landedIn_9 stepped_10 K n v13 isAt_14 isNext_15 = some (res, now_o, landed_o, landedIn_o, stepped_o, isAt_o, isNext_o) → W P l E rmX6_walk Z Mi AR BE ME CO H locs 0 0 Q (F0 Mi 23 ls []) := by
        intro K hKe n
        induction n with
        | zero => intro v13 isAt_14 isNext_15 H locs ls w hl hf; cases hf
        | succ n ih =>
          intro v13 isAt_14 isNext_15 H locs ls w hl hf
          rw [fX6_walk_L23] at hf
          refine lv_iload_n C.1 C.2.1 (dk_at dkX6_walk 13 rfl) rfl (lv_at hl 0 rfl) ?_
          refine lv_bipush (v := 10) C.1 C.2.1 (dk_at dkX6_walk 14 rfl) (by decide) ?_
          refine lv_icmp_ge (tgt := 55) C.1 C.2.1 (dk_at dkX6_walk 15 rfl) (by decide) (fun c17 => ?_) (fun c17 => ?_)
          · have hf := (if_pos c17).symm.trans hf
            exact hKe v13 isAt_14 isNext_15 _ _ _ w (lv_sub hl [] rfl) hf
          · have hf := (if_neg c17).symm.trans hf
            refine lv_iload_n C.1 C.2.1 (dk_at dkX6_walk 16 rfl) rfl (lv_at hl 0 rfl) ?_
            obtain ⟨isAt_18, isNext_19, hq20, hf⟩ := bd2_at hf
            have J21 : ∀ (H : Heap) (locs : List Loc) (ls : Array Slot), Wd g A Z.heap (wM g a_m st now_7 isKept hearers draft dHearers dWalls toldWinds tape taped pos frm sort value fault wrongAt landed_8 landedIn_9 stepped_10 isThere isAt_18 isNext_19 landSum heardSum allWays ways drawn lanes sizes cells torn before) H locs → lv_has ls 4 [(3, .int v13), (0, .ref (a_m 0)), (2, .int p2)] → W P l E rmX6_walk Z Mi AR BE ME CO H locs 0 0 Q (F0 Mi 38 ls []) := by
              intro H locs ls w hl
              refine lv_aload_n C.1 C.2.1 (dk_at dkX6_walk 21 rfl) rfl (lv_at hl 1 rfl) ?_
              refine r_get (v := .ref (a_m 10)) C hK w.1 (fun w h => List.mem_cons_of_mem _ (inlX6 w h)) 0 rfl rfl 20 (by decide) (List.mem_cons_of_mem _ (inr4 _ (List.mem_of_getElem? (i := 13) rfl))) rfl (dk_at dkX6_walk 22 rfl) ?_
              refine lv_iload_n C.1 C.2.1 (dk_at dkX6_walk 23 rfl) rfl (lv_at hl 2 rfl) ?_
              obtain ⟨h22, hf⟩ := gd_at hf
              refine r_zald (k := p2.toNatClampNeg) (f := isAt_18) C hK w.1 10 rfl h22 rfl (dk_at dkX6_walk 24 rfl) ?_
              refine lv_if_eq (tgt := 49) C.1 C.2.1 (dk_at dkX6_walk 25 rfl) (by decide) (fun c23 => ?_) (fun c23 => ?_)
              · have hf := (if_pos c23).symm.trans hf
                obtain ⟨x24, ex24⟩ : ∃ z : Int32, z = v13 + 1 := ⟨_, rfl⟩
                have hf := nm_at ex24 hf
                refine lv_iinc (v := x24) (lv' := [(3, .int x24), (0, .ref (a_m 0)), (2, .int p2)]) C.1 C.2.1 (dk_at dkX6_walk 28 rfl) hl (k := 0) rfl (by rw [ex24]; rfl) (by decide) rfl (fun ls hl => ?_)
                refine lv_goto (tgt := 23) C.1 C.2.1 (dk_at dkX6_walk 29 rfl) (by decide) ?_
                exact ih x24 isAt_18 isNext_19 _ _ _ w (lv_sub hl [0, 1, 2] rfl) hf
              · have hf := (if_neg c23).symm.trans hf
                refine lv_iload_n C.1 C.2.1 (dk_at dkX6_walk 26 rfl) rfl (lv_at hl 0 rfl) ?_
                cases hf
                exact fin _ _ _ _ _ (dk_at dkX6_walk 27 rfl) rfl w
            clear hf
            have hf := hq20
            refine lv_if_le (tgt := 38) C.1 C.2.1 (dk_at dkX6_walk 17 rfl) (by decide) (fun c25 => ?_) (fun c25 => ?_)
            · have hf := (if_pos c25).symm.trans hf
              cases hf
              exact J21 _ _ _ w (lv_sub hl [0, 1, 2] rfl)
            · have hf := (if_neg c25).symm.trans hf
              refine lv_aload_n C.1 C.2.1 (dk_at dkX6_walk 18 rfl) rfl (lv_at hl 1 rfl) ?_
              refine lv_iload_n C.1 C.2.1 (dk_at dkX6_walk 19 rfl) rfl (lv_at hl 0 rfl) ?_
              obtain ⟨isAt_26, isNext_27, hq28, hf⟩ := bd2_at hf
              refine r_rwv (As := [.int v13]) (rest := []) (wr := []) (ws' := wM g a_m st now_7 isKept hearers draft dHearers dWalls toldWinds tape taped pos frm sort value fault wrongAt landed_8 landedIn_9 stepped_10 isThere isAt_26 isNext_27 landSum heardSum allWays ways drawn lanes sizes cells torn before) C (kX6_walksOn l g _ a_m st now_7 isKept hearers draft dHearers dWalls toldWinds tape taped pos frm sort value fault wrongAt landed_8 landedIn_9 stepped_10 isThere isAt_14 isNext_15 landSum heardSum allWays ways drawn lanes sizes cells torn before v13 isAt_26 isNext_27 hq28) (cwV0 C (inr32 _ (List.mem_of_getElem? (i := 9) rfl)) mwX6_walksOn hdX6_walksOn ⟨Nat.le_of_ble_eq_true rfl, Nat.le_of_ble_eq_true rfl⟩) hK w hA [0, 1, 2, 3, 4, 5, 6, 7, 8, 9, 10, 11, 12, 13, 14, 15, 16, 17] [] [0, 1, 2, 3, 4, 5, 6, 7, 8, 9, 10, 11, 12, 13, 14, 15, 16, 17] (by decide) rfl rfl (by decide) (by decide) rfl (by decide) rfl rfl rfl hl.1 rfl (Nat.le_of_ble_eq_true rfl) ⟨Nat.zero_le _, Nat.zero_le _⟩ (dk_at dkX6_walk 20 rfl) (fun H locs w => ?_)
              cases hf
              exact J21 _ _ _ w (lv_sub hl [0, 1, 2] rfl)
      refine L16 _ ?_ 4096 0 isAt_11 isNext _ _ _ w (lv_sub hl [0, 1, 3] rfl) hf
      clear hf
      intro v13 isAt_14 isNext_15 H locs ls w hl hf
      refine lv_bipush (v := (-4)) C.1 C.2.1 (dk_at dkX6_walk 30 rfl) (by decide) ?_
      cases hf
      exact fin _ _ _ _ _ (dk_at dkX6_walk 31 rfl) rfl w
    · have hf := (if_pos c6).symm.trans hf
      refine lv_iconst (v := (-1)) C.1 C.2.1 (dk_at dkX6_walk 6 rfl) (by decide) ?_
      cases hf
      exact fin _ _ _ _ _ (dk_at dkX6_walk 7 rfl) rfl w
-- X6.walks
abbrev tbX6_walks : List (Nat × Instr × Nat) := [(0, .iload_n 1, 1), (1, .invokestatic 140, 3), (4, .ifCond .ne 5, 3), (7, .iconst (-1), 1), (8, .ireturn, 1), (9, .iconst 0, 1), (10, .istore_n 2, 1), (11, .aload_n 0, 1), (12, .iload_n 1, 1), (13, .invokevirtual 265, 3), (16, .iconst 1, 1), (17, .istore_n 3, 1), (18, .iload_n 3, 1), (19, .bipush 10, 2), (21, .if_icmp .ge 14, 3), (24, .aload_n 0, 1), (25, .iload_n 3, 1), (26, .invokevirtual 268, 3), (29, .iinc 3 1, 3), (32, .goto (-14), 3), (35, .iconst 0, 1), (36, .istore_n 3, 1), (37, .iload_n 3, 1), (38, .bipush 80, 2), (40, .if_icmp .ge 21, 3), (43, .iload_n 2, 1), (44, .aload_n 0, 1), (45, .getfield 38, 3), (48, .iload_n 3, 1), (49, .baload, 1), (50, .invokestatic 207, 3), (53, .iadd, 1), (54, .istore_n 2, 1), (55, .iinc 3 1, 3), (58, .goto (-21), 3), (61, .iload_n 2, 1), (62, .ireturn, 1)]
theorem dkX6_walks : dk cX6_walks tbX6_walks := dk_of (by decide +kernel)
abbrev cdX6_walks : Cond := Cond.code yX6_walks cX6_walks 4 (some .int)
abbrev rmX6_walks : Room := { frames := 6, cells := 0, slots := 0, locals := 139 }
theorem mwX6_walks : Cond.instanceMethod yX6_walks ∈ wsL_law ∧ Cond.selects RX6 yX6_walks yX6_walks ∈ wsL_law ∧ Cond.initialized RX6 ∈ wsL_law ∧ cdX6_walks ∈ wsL_law := ⟨inr32 _ (List.mem_of_getElem? (i := 18) rfl), inr32 _ (List.mem_of_getElem? (i := 19) rfl), inr1 _ (List.mem_of_getElem? (i := 5) rfl), inr32 _ (List.mem_of_getElem? (i := 20) rfl)⟩
theorem hdX6_walks : yX6_walks.cls = RX6 ∧ yX6_walks.cls ≠ "java/lang/invoke/MethodHandle" ∧ yX6_walks.cls ≠ "java/lang/invoke/VarHandle" ∧ (parseMethodDescriptor yX6_walks.desc).map (fun d => d.parameters.length) = some 1 := by decide +kernel
set_option maxHeartbeats 4000000 in
set_option maxRecDepth 100000 in
theorem kX6_walks (l : Launch) (g : Gx) (sz : Nat) (a_m : Nat → Nat) (st : AI) (now : AI) (isKept : AI) (hearers : Int32) (draft : AI) (dHearers : Int32) (dWalls : Int32) (toldWinds : Int32) (tape : AI) (taped : Int32) (pos : Int32) (frm : Int32) (sort : Int32) (value : Int32) (fault : Int32) (wrongAt : Int32) (landed : AI) (landedIn : AI) (stepped : AI) (isThere : AI) (isAt : AI) (isNext : AI) (landSum : Int64) (heardSum : Int64) (allWays : Int64) (ways : AI) (drawn : AI) (lanes : AI) (sizes : AI) (cells : AI) (torn : Int32) (before : AI) (p1 : Int32) (res : Int32) (now_o : AI) (landed_o : AI) (landedIn_o : AI) (stepped_o : AI) (isAt_o : AI) (isNext_o : AI) (hf : fX6_walks p1 st now landed landedIn stepped isAt isNext = some (res, now_o, landed_o, landedIn_o, stepped_o, isAt_o, isNext_o)) : Met l yX6_walks (cdX6_walks :: wsL_law) rmX6_walks (va_Pc [.ref (a_m 0), .int p1] (RWp g sz (wM g a_m st now isKept hearers draft dHearers dWalls toldWinds tape taped pos frm sort value fault wrongAt landed landedIn stepped isThere isAt isNext landSum heardSum allWays ways drawn lanes sizes cells torn before))) (va_Qi (fun x (_ : Unit) => x = res) (fun _ => RWq g (va_A (wM g a_m st now isKept hearers draft dHearers dWalls toldWinds tape taped pos frm sort value fault wrongAt landed landedIn stepped isThere isAt isNext landSum heardSum allWays ways drawn lanes sizes cells torn before) sz) (wM g a_m st now_o isKept hearers draft dHearers dWalls toldWinds tape taped pos frm sort value fault wrongAt landed_o landedIn_o stepped_o isThere isAt_o isNext_o landSum heardSum allWays ways drawn lanes sizes cells torn before)) (va_A (wM g a_m st now isKept hearers draft dHearers dWalls toldWinds tape taped pos frm sort value fault wrongAt landed landedIn stepped isThere isAt isNext landSum heardSum allWays ways drawn lanes sizes cells torn before) sz)) 0 0 (va_A (wM g a_m st now isKept hearers draft dHearers dWalls toldWinds tape taped pos frm sort value fault wrongAt landed landedIn stepped isThere isAt isNext landSum heardSum allWays ways drawn lanes sizes cells torn before) sz) := by
  refine Met_rwi (cc := cX6_walks) (maxL := 4) (by decide) rfl (Nat.le_of_ble_eq_true rfl) ?_
  intro P E Z Mi AR BE ME CO A Q C hK hA fin w ls hl
  have hl : lv_has ls 4 [(0, .ref (a_m 0)), (1, .int p1)] := hl
  unfold fX6_walks at hf
  refine lv_iload_n C.1 C.2.1 (dk_at dkX6_walks 0 rfl) rfl (lv_at hl 1 rfl) ?_
  obtain ⟨r1, hq2, hf⟩ := bd1_at hf
  refine r_st (As := [.int p1]) (rest := []) C (kX6_isCell l p1 r1 hq2) (cwS0 C (inr15 _ (List.mem_of_getElem? (i := 8) rfl)) mwX6_isCell hdX6_isCell ⟨Nat.le_of_ble_eq_true rfl, Nat.le_of_ble_eq_true rfl⟩) rfl hl.1 rfl (Nat.le_of_ble_eq_true rfl) ⟨Nat.zero_le _, Nat.zero_le _⟩ (dk_at dkX6_walks 1 rfl) ?_
  refine lv_if_ne (tgt := 9) C.1 C.2.1 (dk_at dkX6_walks 2 rfl) (by decide) (fun c3 => ?_) (fun c3 => ?_)
  · have hf := (if_neg c3).symm.trans hf
    refine lv_iconst (v := 0) C.1 C.2.1 (dk_at dkX6_walks 5 rfl) (by decide) ?_
    refine lv_istore_n (lv' := [(2, .int 0), (0, .ref (a_m 0)), (1, .int p1)]) C.1 C.2.1 (dk_at dkX6_walks 6 rfl) rfl hl (by decide) rfl (fun ls hl => ?_)
    refine lv_aload_n C.1 C.2.1 (dk_at dkX6_walks 7 rfl) rfl (lv_at hl 1 rfl) ?_
    refine lv_iload_n C.1 C.2.1 (dk_at dkX6_walks 8 rfl) rfl (lv_at hl 2 rfl) ?_
    obtain ⟨now_4, landed_5, landedIn_6, stepped_7, isAt_8, hq9, hf⟩ := bd5_at hf
    refine r_rwv (As := [.int p1]) (rest := []) (wr := []) (ws' := wM g a_m st now_4 isKept hearers draft dHearers dWalls toldWinds tape taped pos frm sort value fault wrongAt landed_5 landedIn_6 stepped_7 isThere isAt_8 isNext landSum heardSum allWays ways drawn lanes sizes cells torn before) C (kX6_beginsWalk l g _ a_m st now isKept hearers draft dHearers dWalls toldWinds tape taped pos frm sort value fault wrongAt landed landedIn stepped isThere isAt isNext landSum heardSum allWays ways drawn lanes sizes cells torn before p1 now_4 landed_5 landedIn_6 stepped_7 isAt_8 hq9) (cwV0 C (inr32 _ (List.mem_of_getElem? (i := 1) rfl)) mwX6_beginsWalk hdX6_beginsWalk ⟨Nat.le_of_ble_eq_true rfl, Nat.le_of_ble_eq_true rfl⟩) hK w hA [0, 1, 2, 3, 4, 5, 6, 7, 8, 9, 10, 11, 12, 13, 14, 15, 16, 17] [] [0, 1, 2, 3, 4, 5, 6, 7, 8, 9, 10, 11, 12, 13, 14, 15, 16, 17] (by decide) rfl rfl (by decide) (by decide) rfl (by decide) rfl rfl rfl hl.1 rfl (Nat.le_of_ble_eq_true rfl) ⟨Nat.zero_le _, Nat.zero_le _⟩ (dk_at dkX6_walks 9 rfl) (fun H locs w => ?_)
    refine lv_iconst (v := 1) C.1 C.2.1 (dk_at dkX6_walks 10 rfl) (by decide) ?_
    refine lv_istore_n (lv' := [(3, .int 1), (2, .int 0), (0, .ref (a_m 0)), (1, .int p1)]) C.1 C.2.1 (dk_at dkX6_walks 11 rfl) rfl hl (by decide) rfl (fun ls hl => ?_)
    have L13 : ∀ (K : Int32 → AI → AI → Option (Int32 × AI × AI × AI × AI × AI × AI)), (∀ (v10 : Int32) (isAt_11 : AI) (isNext_12 : AI) (H : Heap) (locs : List Loc) (ls : Array Slot), Wd g A Z.heap (wM g a_m st now_4 isKept hearers draft dHearers dWalls toldWinds tape taped pos frm sort value fault wrongAt landed_5 landedIn_6 stepped_7 isThere isAt_11 isNext_12 landSum heardSum allWays ways drawn lanes sizes cells torn before) H locs → lv_has ls 4 [(2, .int 0), (0, .ref (a_m 0))] → K v10 isAt_11 isNext_12 = some (res, now_o, landed_o, landedIn_o, stepped_o, isAt_o, isNext_o) → W P l E rmX6_walks Z Mi AR BE ME CO H locs 0 0 Q (F0 Mi 35 ls [])) → ∀ (n : Nat), ∀ (v10 : Int32) (isAt_11 : AI) (isNext_12 : AI) (H : Heap) (locs : List Loc) (ls : Array Slot), Wd g A Z.heap (wM g a_m st now_4 isKept hearers draft dHearers dWalls toldWinds tape taped pos frm sort value fault wrongAt landed_5 landedIn_6 stepped_7 isThere isAt_11 isNext_12 landSum heardSum allWays ways drawn lanes sizes cells torn before) H locs → lv_has ls 4 [(3, .int v10), (2, .int 0), (0, .ref (a_m 0))] → fX6_walks_L18 st now_4 landed_5 landedIn_6 K n v10 isAt_11 isNext_12 = some (res, now_o, landed_o, landedIn_o, stepped_o, isAt_o, isNext_o) → W P l E rmX6_walks Z Mi AR BE ME CO H locs 0 0 Q (F0 Mi 18 ls []) := by
      intro K hKe n
      induction n with
      | zero => intro v10 isAt_11 isNext_12 H locs ls w hl hf; cases hf
      | succ n ih =>
        intro v10 isAt_11 isNext_12 H locs ls w hl hf
        rw [fX6_walks_L18] at hf
        refine lv_iload_n C.1 C.2.1 (dk_at dkX6_walks 12 rfl) rfl (lv_at hl 0 rfl) ?_
        refine lv_bipush (v := 10) C.1 C.2.1 (dk_at dkX6_walks 13 rfl) (by decide) ?_
        refine lv_icmp_ge (tgt := 35) C.1 C.2.1 (dk_at dkX6_walks 14 rfl) (by decide) (fun c14 => ?_) (fun c14 => ?_)
        · have hf := (if_pos c14).symm.trans hf
          exact hKe v10 isAt_11 isNext_12 _ _ _ w (lv_sub hl [1, 2] rfl) hf
        · have hf := (if_neg c14).symm.trans hf
          refine lv_aload_n C.1 C.2.1 (dk_at dkX6_walks 15 rfl) rfl (lv_at hl 2 rfl) ?_
          refine lv_iload_n C.1 C.2.1 (dk_at dkX6_walks 16 rfl) rfl (lv_at hl 0 rfl) ?_
          obtain ⟨isAt_15, isNext_16, hq17, hf⟩ := bd2_at hf
          refine r_rwv (As := [.int v10]) (rest := []) (wr := []) (ws' := wM g a_m st now_4 isKept hearers draft dHearers dWalls toldWinds tape taped pos frm sort value fault wrongAt landed_5 landedIn_6 stepped_7 isThere isAt_15 isNext_16 landSum heardSum allWays ways drawn lanes sizes cells torn before) C (kX6_walksOn l g _ a_m st now_4 isKept hearers draft dHearers dWalls toldWinds tape taped pos frm sort value fault wrongAt landed_5 landedIn_6 stepped_7 isThere isAt_11 isNext_12 landSum heardSum allWays ways drawn lanes sizes cells torn before v10 isAt_15 isNext_16 hq17) (cwV0 C (inr32 _ (List.mem_of_getElem? (i := 9) rfl)) mwX6_walksOn hdX6_walksOn ⟨Nat.le_of_ble_eq_true rfl, Nat.le_of_ble_eq_true rfl⟩) hK w hA [0, 1, 2, 3, 4, 5, 6, 7, 8, 9, 10, 11, 12, 13, 14, 15, 16, 17] [] [0, 1, 2, 3, 4, 5, 6, 7, 8, 9, 10, 11, 12, 13, 14, 15, 16, 17] (by decide) rfl rfl (by decide) (by decide) rfl (by decide) rfl rfl rfl hl.1 rfl (Nat.le_of_ble_eq_true rfl) ⟨Nat.zero_le _, Nat.zero_le _⟩ (dk_at dkX6_walks 17 rfl) (fun H locs w => ?_)
          obtain ⟨x18, ex18⟩ : ∃ z : Int32, z = v10 + 1 := ⟨_, rfl⟩
          have hf := nm_at ex18 hf
          refine lv_iinc (v := x18) (lv' := [(3, .int x18), (2, .int 0), (0, .ref (a_m 0))]) C.1 C.2.1 (dk_at dkX6_walks 18 rfl) hl (k := 0) rfl (by rw [ex18]; rfl) (by decide) rfl (fun ls hl => ?_)
          refine lv_goto (tgt := 18) C.1 C.2.1 (dk_at dkX6_walks 19 rfl) (by decide) ?_
          exact ih x18 isAt_15 isNext_16 _ _ _ w (lv_sub hl [0, 1, 2] rfl) hf
    refine L13 _ ?_ 4096 1 isAt_8 isNext _ _ _ w (lv_sub hl [0, 1, 2] rfl) hf
    clear hf
    intro v10 isAt_11 isNext_12 H locs ls w hl hf
    refine lv_iconst (v := 0) C.1 C.2.1 (dk_at dkX6_walks 20 rfl) (by decide) ?_
    refine lv_istore_n (lv' := [(3, .int 0), (2, .int 0), (0, .ref (a_m 0))]) C.1 C.2.1 (dk_at dkX6_walks 21 rfl) rfl hl (by decide) rfl (fun ls hl => ?_)
    have L21 : ∀ (K : Int32 → Int32 → Option (Int32 × AI × AI × AI × AI × AI × AI)), (∀ (v19 : Int32) (v20 : Int32) (H : Heap) (locs : List Loc) (ls : Array Slot), Wd g A Z.heap (wM g a_m st now_4 isKept hearers draft dHearers dWalls toldWinds tape taped pos frm sort value fault wrongAt landed_5 landedIn_6 stepped_7 isThere isAt_11 isNext_12 landSum heardSum allWays ways drawn lanes sizes cells torn before) H locs → lv_has ls 4 [(2, .int v20)] → K v19 v20 = some (res, now_o, landed_o, landedIn_o, stepped_o, isAt_o, isNext_o) → W P l E rmX6_walks Z Mi AR BE ME CO H locs 0 0 Q (F0 Mi 61 ls [])) → ∀ (n : Nat), ∀ (v19 : Int32) (v20 : Int32) (H : Heap) (locs : List Loc) (ls : Array Slot), Wd g A Z.heap (wM g a_m st now_4 isKept hearers draft dHearers dWalls toldWinds tape taped pos frm sort value fault wrongAt landed_5 landedIn_6 stepped_7 isThere isAt_11 isNext_12 landSum heardSum allWays ways drawn lanes sizes cells torn before) H locs → lv_has ls 4 [(3, .int v19), (2, .int v20), (0, .ref (a_m 0))] → fX6_walks_L37 isAt_11 K n v19 v20 = some (res, now_o, landed_o, landedIn_o, stepped_o, isAt_o, isNext_o) → W P l E rmX6_walks Z Mi AR BE ME CO H locs 0 0 Q (F0 Mi 37 ls []) := by
      intro K hKe n
      induction n with
      | zero => intro v19 v20 H locs ls w hl hf; cases hf
      | succ n ih =>
        intro v19 v20 H locs ls w hl hf
        rw [fX6_walks_L37] at hf
        refine lv_iload_n C.1 C.2.1 (dk_at dkX6_walks 22 rfl) rfl (lv_at hl 0 rfl) ?_
        refine lv_bipush (v := 80) C.1 C.2.1 (dk_at dkX6_walks 23 rfl) (by decide) ?_
        refine lv_icmp_ge (tgt := 61) C.1 C.2.1 (dk_at dkX6_walks 24 rfl) (by decide) (fun c22 => ?_) (fun c22 => ?_)
        · have hf := (if_pos c22).symm.trans hf
          exact hKe v19 v20 _ _ _ w (lv_sub hl [1] rfl) hf
        · have hf := (if_neg c22).symm.trans hf
          refine lv_iload_n C.1 C.2.1 (dk_at dkX6_walks 25 rfl) rfl (lv_at hl 1 rfl) ?_
          refine lv_aload_n C.1 C.2.1 (dk_at dkX6_walks 26 rfl) rfl (lv_at hl 2 rfl) ?_
          refine r_get (v := .ref (a_m 10)) C hK w.1 (fun w h => List.mem_cons_of_mem _ (inlX6 w h)) 0 rfl rfl 20 (by decide) (List.mem_cons_of_mem _ (inr4 _ (List.mem_of_getElem? (i := 13) rfl))) rfl (dk_at dkX6_walks 27 rfl) ?_
          refine lv_iload_n C.1 C.2.1 (dk_at dkX6_walks 28 rfl) rfl (lv_at hl 0 rfl) ?_
          obtain ⟨h23, hf⟩ := gd_at hf
          refine r_zald (k := v19.toNatClampNeg) (f := isAt_11) C hK w.1 10 rfl h23 rfl (dk_at dkX6_walks 29 rfl) ?_
          refine lv_topi (fun x24 ex24 => ?_)
          have hf := nm_at ex24 hf
          obtain ⟨r25, hq26, hf⟩ := bd1_at hf
          refine r_st (As := [.int x24]) (rest := [.int v20]) C (kX6_flag l x24 r25 hq26) (cwS0 C (inr17 _ (List.mem_of_getElem? (i := 7) rfl)) mwX6_flag hdX6_flag ⟨Nat.le_of_ble_eq_true rfl, Nat.le_of_ble_eq_true rfl⟩) rfl hl.1 rfl (Nat.le_of_ble_eq_true rfl) ⟨Nat.zero_le _, Nat.zero_le _⟩ (dk_at dkX6_walks 30 rfl) ?_
          refine lv_iadd C.1 C.2.1 (dk_at dkX6_walks 31 rfl) ?_
          refine lv_topi (fun x27 ex27 => ?_)
          have hf := nm_at ex27 hf
          refine lv_istore_n (lv' := [(2, .int x27), (3, .int v19), (0, .ref (a_m 0))]) C.1 C.2.1 (dk_at dkX6_walks 32 rfl) rfl hl (by decide) rfl (fun ls hl => ?_)
          obtain ⟨x28, ex28⟩ : ∃ z : Int32, z = v19 + 1 := ⟨_, rfl⟩
          have hf := nm_at ex28 hf
          refine lv_iinc (v := x28) (lv' := [(3, .int x28), (2, .int x27), (0, .ref (a_m 0))]) C.1 C.2.1 (dk_at dkX6_walks 33 rfl) hl (k := 1) rfl (by rw [ex28]; rfl) (by decide) rfl (fun ls hl => ?_)
          refine lv_goto (tgt := 37) C.1 C.2.1 (dk_at dkX6_walks 34 rfl) (by decide) ?_
          exact ih x28 x27 _ _ _ w (lv_sub hl [0, 1, 2] rfl) hf
    refine L21 _ ?_ 4096 0 0 _ _ _ w (lv_sub hl [0, 1, 2] rfl) hf
    clear hf
    intro v19 v20 H locs ls w hl hf
    refine lv_iload_n C.1 C.2.1 (dk_at dkX6_walks 35 rfl) rfl (lv_at hl 0 rfl) ?_
    cases hf
    exact fin _ _ _ _ _ (dk_at dkX6_walks 36 rfl) rfl w
  · have hf := (if_pos c3).symm.trans hf
    refine lv_iconst (v := (-1)) C.1 C.2.1 (dk_at dkX6_walks 3 rfl) (by decide) ?_
    cases hf
    exact fin _ _ _ _ _ (dk_at dkX6_walks 4 rfl) rfl w
-- X6.when
abbrev tbX6_when : List (Nat × Instr × Nat) := [(0, .aload_n 0, 1), (1, .iload_n 1, 1), (2, .invokevirtual 214, 3), (5, .ifCond .eq 10, 3), (8, .iload_n 2, 1), (9, .invokestatic 243, 3), (12, .ifCond .ne 5, 3), (15, .iconst (-1), 1), (16, .ireturn, 1), (17, .iconst (-1), 1), (18, .istore_n 3, 1), (19, .iconst 0, 1), (20, .istore 4, 2), (22, .iconst 0, 1), (23, .istore 5, 2), (25, .iload 5, 2), (27, .bipush 10, 2), (29, .if_icmp .ge 60, 3), (32, .aload_n 0, 1), (33, .invokevirtual 201, 3), (36, .aload_n 0, 1), (37, .iload_n 1, 1), (38, .iconst 4, 1), (39, .iload 5, 2), (41, .invokevirtual 255, 3), (44, .aload_n 0, 1), (45, .invokevirtual 204, 3), (48, .aload_n 0, 1), (49, .iload_n 1, 1), (50, .invokevirtual 211, 3), (53, .istore 6, 2), (55, .iload 6, 2), (57, .iload_n 3, 1), (58, .if_icmp .le 8, 3), (61, .iload 5, 2), (63, .goto 5, 3), (66, .iload 4, 2), (68, .istore 4, 2), (70, .iload 6, 2), (72, .iload_n 3, 1), (73, .if_icmp .le 8, 3), (76, .iload 6, 2), (78, .goto 4, 3), (81, .iload_n 3, 1), (82, .istore_n 3, 1), (83, .iinc 5 1, 3), (86, .goto (-61), 3), (89, .iload_n 2, 1), (90, .ifCond .ne 8, 3), (93, .iload 4, 2), (95, .goto 4, 3), (98, .iload_n 3, 1), (99, .ireturn, 1)]
theorem dkX6_when : dk cX6_when tbX6_when := dk_of (by decide +kernel)
abbrev cdX6_when : Cond := Cond.code yX6_when cX6_when 7 (some .int)
abbrev rmX6_when : Room := { frames := 4, cells := 0, slots := 0, locals := 97 }
theorem mwX6_when : Cond.instanceMethod yX6_when ∈ wsL_law ∧ Cond.selects RX6 yX6_when yX6_when ∈ wsL_law ∧ Cond.initialized RX6 ∈ wsL_law ∧ cdX6_when ∈ wsL_law := ⟨inr33 _ (List.mem_of_getElem? (i := 3) rfl), inr33 _ (List.mem_of_getElem? (i := 4) rfl), inr1 _ (List.mem_of_getElem? (i := 5) rfl), inr33 _ (List.mem_of_getElem? (i := 5) rfl)⟩
theorem hdX6_when : yX6_when.cls = RX6 ∧ yX6_when.cls ≠ "java/lang/invoke/MethodHandle" ∧ yX6_when.cls ≠ "java/lang/invoke/VarHandle" ∧ (parseMethodDescriptor yX6_when.desc).map (fun d => d.parameters.length) = some 2 := by decide +kernel
set_option maxHeartbeats 4000000 in
set_option maxRecDepth 100000 in
theorem kX6_when (l : Launch) (g : Gx) (sz : Nat) (a_m : Nat → Nat) (st : AI) (now : AI) (isKept : AI) (hearers : Int32) (draft : AI) (dHearers : Int32) (dWalls : Int32) (toldWinds : Int32) (tape : AI) (taped : Int32) (pos : Int32) (frm : Int32) (sort : Int32) (value : Int32) (fault : Int32) (wrongAt : Int32) (landed : AI) (landedIn : AI) (stepped : AI) (isThere : AI) (isAt : AI) (isNext : AI) (landSum : Int64) (heardSum : Int64) (allWays : Int64) (ways : AI) (drawn : AI) (lanes : AI) (sizes : AI) (cells : AI) (torn : Int32) (before : AI) (p1 : Int32) (p2 : Int32) (res : Int32) (now_o : AI) (landed_o : AI) (landedIn_o : AI) (stepped_o : AI) (hf : fX6_when p1 p2 st now hearers landed landedIn stepped = some (res, now_o, landed_o, landedIn_o, stepped_o)) : Met l yX6_when (cdX6_when :: wsL_law) rmX6_when (va_Pc [.ref (a_m 0), .int p1, .int p2] (RWp g sz (wM g a_m st now isKept hearers draft dHearers dWalls toldWinds tape taped pos frm sort value fault wrongAt landed landedIn stepped isThere isAt isNext landSum heardSum allWays ways drawn lanes sizes cells torn before))) (va_Qi (fun x (_ : Unit) => x = res) (fun _ => RWq g (va_A (wM g a_m st now isKept hearers draft dHearers dWalls toldWinds tape taped pos frm sort value fault wrongAt landed landedIn stepped isThere isAt isNext landSum heardSum allWays ways drawn lanes sizes cells torn before) sz) (wM g a_m st now_o isKept hearers draft dHearers dWalls toldWinds tape taped pos frm sort value fault wrongAt landed_o landedIn_o stepped_o isThere isAt isNext landSum heardSum allWays ways drawn lanes sizes cells torn before)) (va_A (wM g a_m st now isKept hearers draft dHearers dWalls toldWinds tape taped pos frm sort value fault wrongAt landed landedIn stepped isThere isAt isNext landSum heardSum allWays ways drawn lanes sizes cells torn before) sz)) 0 0 (va_A (wM g a_m st now isKept hearers draft dHearers dWalls toldWinds tape taped pos frm sort value fault wrongAt landed landedIn stepped isThere isAt isNext landSum heardSum allWays ways drawn lanes sizes cells torn before) sz) := by
  refine Met_rwi (cc := cX6_when) (maxL := 7) (by decide) rfl (Nat.le_of_ble_eq_true rfl) ?_
  intro P E Z Mi AR BE ME CO A Q C hK hA fin w ls hl
  have hl : lv_has ls 7 [(0, .ref (a_m 0)), (1, .int p1), (2, .int p2)] := hl
  unfold fX6_when at hf
  refine lv_aload_n C.1 C.2.1 (dk_at dkX6_when 0 rfl) rfl (lv_at hl 0 rfl) ?_
  refine lv_iload_n C.1 C.2.1 (dk_at dkX6_when 1 rfl) rfl (lv_at hl 1 rfl) ?_
  obtain ⟨r1, hq2, hf⟩ := bd1_at hf
  refine r_roV (As := [.int p1]) (rest := []) C (kX6_isSaying l g a_m st now isKept hearers draft dHearers dWalls toldWinds tape taped pos frm sort value fault wrongAt landed landedIn stepped isThere isAt isNext landSum heardSum allWays ways drawn lanes sizes cells torn before p1 r1 hq2) (cwV0 C (inr18 _ (List.mem_of_getElem? (i := 10) rfl)) mwX6_isSaying hdX6_isSaying ⟨Nat.le_of_ble_eq_true rfl, Nat.le_of_ble_eq_true rfl⟩) hK w.1 rfl rfl rfl hl.1 rfl (Nat.le_of_ble_eq_true rfl) ⟨Nat.zero_le _, Nat.zero_le _⟩ (dk_at dkX6_when 2 rfl) ?_
  refine lv_if_eq (tgt := 15) C.1 C.2.1 (dk_at dkX6_when 3 rfl) (by decide) (fun c3 => ?_) (fun c3 => ?_)
  · have hf := (if_pos c3).symm.trans hf
    refine lv_iconst (v := (-1)) C.1 C.2.1 (dk_at dkX6_when 7 rfl) (by decide) ?_
    cases hf
    exact fin _ _ _ _ _ (dk_at dkX6_when 8 rfl) rfl w
  · have hf := (if_neg c3).symm.trans hf
    refine lv_iload_n C.1 C.2.1 (dk_at dkX6_when 4 rfl) rfl (lv_at hl 2 rfl) ?_
    obtain ⟨r4, hq5, hf⟩ := bd1_at hf
    refine r_st (As := [.int p2]) (rest := []) C (kX6_isPart l p2 r4 hq5) (cwS0 C (inr26 _ (List.mem_of_getElem? (i := 22) rfl)) mwX6_isPart hdX6_isPart ⟨Nat.le_of_ble_eq_true rfl, Nat.le_of_ble_eq_true rfl⟩) rfl hl.1 rfl (Nat.le_of_ble_eq_true rfl) ⟨Nat.zero_le _, Nat.zero_le _⟩ (dk_at dkX6_when 5 rfl) ?_
    refine lv_if_ne (tgt := 17) C.1 C.2.1 (dk_at dkX6_when 6 rfl) (by decide) (fun c6 => ?_) (fun c6 => ?_)
    · have hf := (if_neg c6).symm.trans hf
      refine lv_iconst (v := (-1)) C.1 C.2.1 (dk_at dkX6_when 9 rfl) (by decide) ?_
      refine lv_istore_n (lv' := [(3, .int (-1)), (0, .ref (a_m 0)), (1, .int p1), (2, .int p2)]) C.1 C.2.1 (dk_at dkX6_when 10 rfl) rfl hl (by decide) rfl (fun ls hl => ?_)
      refine lv_iconst (v := 0) C.1 C.2.1 (dk_at dkX6_when 11 rfl) (by decide) ?_
      refine lv_istore (lv' := [(4, .int 0), (3, .int (-1)), (0, .ref (a_m 0)), (1, .int p1), (2, .int p2)]) C.1 C.2.1 (dk_at dkX6_when 12 rfl) hl (by decide) rfl (fun ls hl => ?_)
      refine lv_iconst (v := 0) C.1 C.2.1 (dk_at dkX6_when 13 rfl) (by decide) ?_
      refine lv_istore (lv' := [(5, .int 0), (4, .int 0), (3, .int (-1)), (0, .ref (a_m 0)), (1, .int p1), (2, .int p2)]) C.1 C.2.1 (dk_at dkX6_when 14 rfl) hl (by decide) rfl (fun ls hl => ?_)
      have L14 : ∀ (K : Int32 → Int32 → Int32 → AI → AI → AI → AI → Option (Int32 × AI × AI × AI × AI)), (∀ (v7 : Int32) (v8 : Int32) (v9 : Int32) (now_10 : AI) (landed_11 : AI) (landedIn_12 : AI) (stepped_13 : AI) (H : Heap) (locs : List Loc) (ls : Array Slot), Wd g A Z.heap (wM g a_m st now_10 isKept hearers draft dHearers dWalls toldWinds tape taped pos frm sort value fault wrongAt landed_11 landedIn_12 stepped_13 isThere isAt isNext landSum heardSum allWays ways drawn lanes sizes cells torn before) H locs → lv_has ls 7 [(4, .int v8), (3, .int v9), (2, .int p2)] → K v7 v8 v9 now_10 landed_11 landedIn_12 stepped_13 = some (res, now_o, landed_o, landedIn_o, stepped_o) → W P l E rmX6_when Z Mi AR BE ME CO H locs 0 0 Q (F0 Mi 89 ls [])) → ∀ (n : Nat), ∀ (v7 : Int32) (v8 : Int32) (v9 : Int32) (now_10 : AI) (landed_11 : AI) (landedIn_12 : AI) (stepped_13 : AI) (H : Heap) (locs : List Loc) (ls : Array Slot), Wd g A Z.heap (wM g a_m st now_10 isKept hearers draft dHearers dWalls toldWinds tape taped pos frm sort value fault wrongAt landed_11 landedIn_12 stepped_13 isThere isAt isNext landSum heardSum allWays ways drawn lanes sizes cells torn before) H locs → lv_has ls 7 [(5, .int v7), (4, .int v8), (3, .int v9), (0, .ref (a_m 0)), (1, .int p1), (2, .int p2)] → fX6_when_L25 st hearers p1 K n v7 v8 v9 now_10 landed_11 landedIn_12 stepped_13 = some (res, now_o, landed_o, landedIn_o, stepped_o) → W P l E rmX6_when Z Mi AR BE ME CO H locs 0 0 Q (F0 Mi 25 ls []) := by
        intro K hKe n
        induction n with
        | zero => intro v7 v8 v9 now_10 landed_11 landedIn_12 stepped_13 H locs ls w hl hf; cases hf
        | succ n ih =>
          intro v7 v8 v9 now_10 landed_11 landedIn_12 stepped_13 H locs ls w hl hf
          rw [fX6_when_L25] at hf
          refine lv_iload C.1 C.2.1 (dk_at dkX6_when 15 rfl) (lv_at hl 0 rfl) ?_
          refine lv_bipush (v := 10) C.1 C.2.1 (dk_at dkX6_when 16 rfl) (by decide) ?_
          refine lv_icmp_ge (tgt := 89) C.1 C.2.1 (dk_at dkX6_when 17 rfl) (by decide) (fun c15 => ?_) (fun c15 => ?_)
          · have hf := (if_pos c15).symm.trans hf
            exact hKe v7 v8 v9 now_10 landed_11 landedIn_12 stepped_13 _ _ _ w (lv_sub hl [1, 2, 5] rfl) hf
          · have hf := (if_neg c15).symm.trans hf
            refine lv_aload_n C.1 C.2.1 (dk_at dkX6_when 18 rfl) rfl (lv_at hl 3 rfl) ?_
            obtain ⟨now_16, hq17, hf⟩ := bd1_at hf
            refine r_rwv (As := []) (rest := []) (wr := []) (ws' := wM g a_m st now_16 isKept hearers draft dHearers dWalls toldWinds tape taped pos frm sort value fault wrongAt landed_11 landedIn_12 stepped_13 isThere isAt isNext landSum heardSum allWays ways drawn lanes sizes cells torn before) C (kX6_starts l g _ a_m st now_10 isKept hearers draft dHearers dWalls toldWinds tape taped pos frm sort value fault wrongAt landed_11 landedIn_12 stepped_13 isThere isAt isNext landSum heardSum allWays ways drawn lanes sizes cells torn before now_16 hq17) (cwV0 C (inr17 _ (List.mem_of_getElem? (i := 3) rfl)) mwX6_starts hdX6_starts ⟨Nat.le_of_ble_eq_true rfl, Nat.le_of_ble_eq_true rfl⟩) hK w hA [0, 1, 2, 3, 4, 5, 6, 7, 8, 9, 10, 11, 12, 13, 14, 15, 16, 17] [] [0, 1, 2, 3, 4, 5, 6, 7, 8, 9, 10, 11, 12, 13, 14, 15, 16, 17] (by decide) rfl rfl (by decide) (by decide) rfl (by decide) rfl rfl rfl hl.1 rfl (Nat.le_of_ble_eq_true rfl) ⟨Nat.zero_le _, Nat.zero_le _⟩ (dk_at dkX6_when 19 rfl) (fun H locs w => ?_)
            refine lv_aload_n C.1 C.2.1 (dk_at dkX6_when 20 rfl) rfl (lv_at hl 3 rfl) ?_
            refine lv_iload_n C.1 C.2.1 (dk_at dkX6_when 21 rfl) rfl (lv_at hl 4 rfl) ?_
            refine lv_iconst (v := 4) C.1 C.2.1 (dk_at dkX6_when 22 rfl) (by decide) ?_
            refine lv_iload C.1 C.2.1 (dk_at dkX6_when 23 rfl) (lv_at hl 0 rfl) ?_
            obtain ⟨now_18, hq19, hf⟩ := bd1_at hf
            refine r_rwv (As := [.int p1, .int 4, .int v7]) (rest := []) (wr := []) (ws' := wM g a_m st now_18 isKept hearers draft dHearers dWalls toldWinds tape taped pos frm sort value fault wrongAt landed_11 landedIn_12 stepped_13 isThere isAt isNext landSum heardSum allWays ways drawn lanes sizes cells torn before) C (kX6_becomesOf l g _ a_m st now_16 isKept hearers draft dHearers dWalls toldWinds tape taped pos frm sort value fault wrongAt landed_11 landedIn_12 stepped_13 isThere isAt isNext landSum heardSum allWays ways drawn lanes sizes cells torn before p1 4 v7 now_18 hq19) (cwV0 C (inr30 _ (List.mem_of_getElem? (i := 0) rfl)) mwX6_becomesOf hdX6_becomesOf ⟨Nat.le_of_ble_eq_true rfl, Nat.le_of_ble_eq_true rfl⟩) hK w hA [0, 1, 2, 3, 4, 5, 6, 7, 8, 9, 10, 11, 12, 13, 14, 15, 16, 17] [] [0, 1, 2, 3, 4, 5, 6, 7, 8, 9, 10, 11, 12, 13, 14, 15, 16, 17] (by decide) rfl rfl (by decide) (by decide) rfl (by decide) rfl rfl rfl hl.1 rfl (Nat.le_of_ble_eq_true rfl) ⟨Nat.zero_le _, Nat.zero_le _⟩ (dk_at dkX6_when 24 rfl) (fun H locs w => ?_)
            refine lv_aload_n C.1 C.2.1 (dk_at dkX6_when 25 rfl) rfl (lv_at hl 3 rfl) ?_
            obtain ⟨now_20, landed_21, landedIn_22, stepped_23, hq24, hf⟩ := bd4_at hf
            refine r_rwv (As := []) (rest := []) (wr := []) (ws' := wM g a_m st now_20 isKept hearers draft dHearers dWalls toldWinds tape taped pos frm sort value fault wrongAt landed_21 landedIn_22 stepped_23 isThere isAt isNext landSum heardSum allWays ways drawn lanes sizes cells torn before) C (kX6_dayGoes l g _ a_m st now_18 isKept hearers draft dHearers dWalls toldWinds tape taped pos frm sort value fault wrongAt landed_11 landedIn_12 stepped_13 isThere isAt isNext landSum heardSum allWays ways drawn lanes sizes cells torn before now_20 landed_21 landedIn_22 stepped_23 hq24) (cwV0 C (inr25 _ (List.mem_of_getElem? (i := 9) rfl)) mwX6_dayGoes hdX6_dayGoes ⟨Nat.le_of_ble_eq_true rfl, Nat.le_of_ble_eq_true rfl⟩) hK w hA [0, 1, 2, 3, 4, 5, 6, 7, 8, 9, 10, 11, 12, 13, 14, 15, 16, 17] [] [0, 1, 2, 3, 4, 5, 6, 7, 8, 9, 10, 11, 12, 13, 14, 15, 16, 17] (by decide) rfl rfl (by decide) (by decide) rfl (by decide) rfl rfl rfl hl.1 rfl (Nat.le_of_ble_eq_true rfl) ⟨Nat.zero_le _, Nat.zero_le _⟩ (dk_at dkX6_when 26 rfl) (fun H locs w => ?_)
            refine lv_aload_n C.1 C.2.1 (dk_at dkX6_when 27 rfl) rfl (lv_at hl 3 rfl) ?_
            refine lv_iload_n C.1 C.2.1 (dk_at dkX6_when 28 rfl) rfl (lv_at hl 4 rfl) ?_
            obtain ⟨r25, hq26, hf⟩ := bd1_at hf
            refine r_roV (As := [.int p1]) (rest := []) C (kX6_hearersOf l g a_m st now_20 isKept hearers draft dHearers dWalls toldWinds tape taped pos frm sort value fault wrongAt landed_21 landedIn_22 stepped_23 isThere isAt isNext landSum heardSum allWays ways drawn lanes sizes cells torn before p1 r25 hq26) (cwV0 C (inr28 _ (List.mem_of_getElem? (i := 6) rfl)) mwX6_hearersOf hdX6_hearersOf ⟨Nat.le_of_ble_eq_true rfl, Nat.le_of_ble_eq_true rfl⟩) hK w.1 rfl rfl rfl hl.1 rfl (Nat.le_of_ble_eq_true rfl) ⟨Nat.zero_le _, Nat.zero_le _⟩ (dk_at dkX6_when 29 rfl) ?_
            refine lv_istore (lv' := [(6, .int r25), (5, .int v7), (4, .int v8), (3, .int v9), (0, .ref (a_m 0)), (1, .int p1), (2, .int p2)]) C.1 C.2.1 (dk_at dkX6_when 30 rfl) hl (by decide) rfl (fun ls hl => ?_)
            refine lv_iload C.1 C.2.1 (dk_at dkX6_when 31 rfl) (lv_at hl 0 rfl) ?_
            refine lv_iload_n C.1 C.2.1 (dk_at dkX6_when 32 rfl) rfl (lv_at hl 3 rfl) ?_
            obtain ⟨y27, hq28, hf⟩ := bd1_at hf
            have J29 : ∀ (H : Heap) (locs : List Loc) (ls : Array Slot), Wd g A Z.heap (wM g a_m st now_20 isKept hearers draft dHearers dWalls toldWinds tape taped pos frm sort value fault wrongAt landed_21 landedIn_22 stepped_23 isThere isAt isNext landSum heardSum allWays ways drawn lanes sizes cells torn before) H locs → lv_has ls 7 [(6, .int r25), (5, .int v7), (3, .int v9), (0, .ref (a_m 0)), (1, .int p1), (2, .int p2)] → W P l E rmX6_when Z Mi AR BE ME CO H locs 0 0 Q (F0 Mi 68 ls [.int y27]) := by
              intro H locs ls w hl
              refine lv_istore (lv' := [(4, .int y27), (6, .int r25), (5, .int v7), (3, .int v9), (0, .ref (a_m 0)), (1, .int p1), (2, .int p2)]) C.1 C.2.1 (dk_at dkX6_when 37 rfl) hl (by decide) rfl (fun ls hl => ?_)
              refine lv_iload C.1 C.2.1 (dk_at dkX6_when 38 rfl) (lv_at hl 1 rfl) ?_
              refine lv_iload_n C.1 C.2.1 (dk_at dkX6_when 39 rfl) rfl (lv_at hl 3 rfl) ?_
              refine lv_icmp_le (tgt := 81) C.1 C.2.1 (dk_at dkX6_when 40 rfl) (by decide) (fun c30 => ?_) (fun c30 => ?_)
              · have hf := (if_pos c30).symm.trans hf
                refine lv_iload_n C.1 C.2.1 (dk_at dkX6_when 43 rfl) rfl (lv_at hl 3 rfl) ?_
                refine lv_istore_n (lv' := [(3, .int v9), (4, .int y27), (6, .int r25), (5, .int v7), (0, .ref (a_m 0)), (1, .int p1), (2, .int p2)]) C.1 C.2.1 (dk_at dkX6_when 44 rfl) rfl hl (by decide) rfl (fun ls hl => ?_)
                obtain ⟨x31, ex31⟩ : ∃ z : Int32, z = v7 + 1 := ⟨_, rfl⟩
                have hf := nm_at ex31 hf
                refine lv_iinc (v := x31) (lv' := [(5, .int x31), (3, .int v9), (4, .int y27), (6, .int r25), (0, .ref (a_m 0)), (1, .int p1), (2, .int p2)]) C.1 C.2.1 (dk_at dkX6_when 45 rfl) hl (k := 3) rfl (by rw [ex31]; rfl) (by decide) rfl (fun ls hl => ?_)
                refine lv_goto (tgt := 25) C.1 C.2.1 (dk_at dkX6_when 46 rfl) (by decide) ?_
                exact ih x31 y27 v9 now_20 landed_21 landedIn_22 stepped_23 _ _ _ w (lv_sub hl [0, 2, 1, 4, 5, 6] rfl) hf
              · have hf := (if_neg c30).symm.trans hf
                refine lv_iload C.1 C.2.1 (dk_at dkX6_when 41 rfl) (lv_at hl 1 rfl) ?_
                refine lv_goto (tgt := 82) C.1 C.2.1 (dk_at dkX6_when 42 rfl) (by decide) ?_
                refine lv_istore_n (lv' := [(3, .int r25), (4, .int y27), (6, .int r25), (5, .int v7), (0, .ref (a_m 0)), (1, .int p1), (2, .int p2)]) C.1 C.2.1 (dk_at dkX6_when 44 rfl) rfl hl (by decide) rfl (fun ls hl => ?_)
                obtain ⟨x32, ex32⟩ : ∃ z : Int32, z = v7 + 1 := ⟨_, rfl⟩
                have hf := nm_at ex32 hf
                refine lv_iinc (v := x32) (lv' := [(5, .int x32), (3, .int r25), (4, .int y27), (6, .int r25), (0, .ref (a_m 0)), (1, .int p1), (2, .int p2)]) C.1 C.2.1 (dk_at dkX6_when 45 rfl) hl (k := 3) rfl (by rw [ex32]; rfl) (by decide) rfl (fun ls hl => ?_)
                refine lv_goto (tgt := 25) C.1 C.2.1 (dk_at dkX6_when 46 rfl) (by decide) ?_
                exact ih x32 y27 r25 now_20 landed_21 landedIn_22 stepped_23 _ _ _ w (lv_sub hl [0, 2, 1, 4, 5, 6] rfl) hf
            clear hf
            have hf := hq28
            refine lv_icmp_le (tgt := 66) C.1 C.2.1 (dk_at dkX6_when 33 rfl) (by decide) (fun c33 => ?_) (fun c33 => ?_)
            · have hf := (if_pos c33).symm.trans hf
              refine lv_iload C.1 C.2.1 (dk_at dkX6_when 36 rfl) (lv_at hl 2 rfl) ?_
              cases hf
              exact J29 _ _ _ w (lv_sub hl [0, 1, 3, 4, 5, 6] rfl)
            · have hf := (if_neg c33).symm.trans hf
              refine lv_iload C.1 C.2.1 (dk_at dkX6_when 34 rfl) (lv_at hl 1 rfl) ?_
              refine lv_goto (tgt := 68) C.1 C.2.1 (dk_at dkX6_when 35 rfl) (by decide) ?_
              cases hf
              exact J29 _ _ _ w (lv_sub hl [0, 1, 3, 4, 5, 6] rfl)
      refine L14 _ ?_ 4096 0 0 (-1) now landed landedIn stepped _ _ _ w (lv_sub hl [0, 1, 2, 3, 4, 5] rfl) hf
      clear hf
      intro v7 v8 v9 now_10 landed_11 landedIn_12 stepped_13 H locs ls w hl hf
      refine lv_iload_n C.1 C.2.1 (dk_at dkX6_when 47 rfl) rfl (lv_at hl 2 rfl) ?_
      refine lv_if_ne (tgt := 98) C.1 C.2.1 (dk_at dkX6_when 48 rfl) (by decide) (fun c34 => ?_) (fun c34 => ?_)
      · have hf := (if_neg c34).symm.trans hf
        refine lv_iload_n C.1 C.2.1 (dk_at dkX6_when 51 rfl) rfl (lv_at hl 1 rfl) ?_
        cases hf
        exact fin _ _ _ _ _ (dk_at dkX6_when 52 rfl) rfl w
      · have hf := (if_pos c34).symm.trans hf
        refine lv_iload C.1 C.2.1 (dk_at dkX6_when 49 rfl) (lv_at hl 0 rfl) ?_
        refine lv_goto (tgt := 99) C.1 C.2.1 (dk_at dkX6_when 50 rfl) (by decide) ?_
        cases hf
        exact fin _ _ _ _ _ (dk_at dkX6_when 52 rfl) rfl w
    · have hf := (if_pos c6).symm.trans hf
      refine lv_iconst (v := (-1)) C.1 C.2.1 (dk_at dkX6_when 7 rfl) (by decide) ?_
      cases hf
      exact fin _ _ _ _ _ (dk_at dkX6_when 8 rfl) rfl w
