-- X2.flawed
abbrev tbX2_flawed : List (Nat × Instr × Nat) := [(0, .aload_n 0, 1), (1, .iload_n 1, 1), (2, .putfield 26, 3), (5, .aload_n 0, 1), (6, .aload_n 0, 1), (7, .getfield 120, 3), (10, .putfield 29, 3), (13, .iconst 0, 1), (14, .ireturn, 1)]
theorem dkX2_flawed : dk cX2_flawed tbX2_flawed := dk_of (by decide +kernel)
abbrev cdX2_flawed : Cond := Cond.code yX2_flawed cX2_flawed 2 (some .boolean)
abbrev rmX2_flawed : Room := { frames := 0, cells := 0, slots := 0, locals := 0 }
theorem mwX2_flawed : Cond.instanceMethod yX2_flawed ∈ wsL_law ∧ Cond.selects RX2 yX2_flawed yX2_flawed ∈ wsL_law ∧ Cond.initialized RX2 ∈ wsL_law ∧ cdX2_flawed ∈ wsL_law := ⟨inr7 _ (List.mem_of_getElem? (i := 9) rfl), inr7 _ (List.mem_of_getElem? (i := 10) rfl), inr1 _ (List.mem_of_getElem? (i := 14) rfl), inr7 _ (List.mem_of_getElem? (i := 11) rfl)⟩
theorem hdX2_flawed : yX2_flawed.cls = RX2 ∧ yX2_flawed.cls ≠ "java/lang/invoke/MethodHandle" ∧ yX2_flawed.cls ≠ "java/lang/invoke/VarHandle" ∧ (parseMethodDescriptor yX2_flawed.desc).map (fun d => d.parameters.length) = some 1 := by decide +kernel
set_option maxHeartbeats 4000000 in
set_option maxRecDepth 100000 in
theorem kX2_flawed (l : Launch) (g : Gx) (sz : Nat) (a_r a_dr : Nat → Nat) (r : RT) (p1 : Int32) (res : Int32) (r_o : RT) (hf : fX2_flawed p1 r = some (res, r_o)) : Met l yX2_flawed (cdX2_flawed :: wsL_law) rmX2_flawed (va_Pc [.ref (a_r 0), .int p1] (RWp g sz (wR g a_r a_dr r))) (va_Qi (fun x (_ : Unit) => x = res) (fun _ => RWq g (va_A (wR g a_r a_dr r) sz) (wR g a_r a_dr r_o)) (va_A (wR g a_r a_dr r) sz)) 0 0 (va_A (wR g a_r a_dr r) sz) := by
  refine Met_rwz (cc := cX2_flawed) (maxL := 2) (by decide) rfl (Nat.le_of_ble_eq_true rfl) ?_
  intro P E Z Mi AR BE ME CO A Q C hK hA fin w ls hl
  have hl : lv_has ls 2 [(0, .ref (a_r 0)), (1, .int p1)] := hl
  unfold fX2_flawed at hf
  refine lv_aload_n C.1 C.2.1 (dk_at dkX2_flawed 0 rfl) rfl (lv_at hl 0 rfl) ?_
  refine lv_iload_n C.1 C.2.1 (dk_at dkX2_flawed 1 rfl) rfl (lv_at hl 1 rfl) ?_
  refine r_put (v := .int p1) C hK w (fun w h => List.mem_cons_of_mem _ (inlX2 w h)) tyX2 tyX2_ok nmX2 0 rfl rfl 3 (by decide) (List.mem_cons_of_mem _ (inr6 _ (List.mem_of_getElem? (i := 20) rfl))) rfl rfl rfl (Nat.le_of_ble_eq_true rfl) (dk_at dkX2_flawed 2 rfl) (fun H locs w => ?_)
  obtain ⟨r_1, er_1⟩ : ∃ z : RT, z = rFl' r p1 := ⟨_, rfl⟩
  have hf := nm_at er_1 hf
  have w : Wd g A Z.heap (wR g a_r a_dr r_1) H locs := by rw [er_1]; exact w
  refine lv_aload_n C.1 C.2.1 (dk_at dkX2_flawed 3 rfl) rfl (lv_at hl 0 rfl) ?_
  refine lv_aload_n C.1 C.2.1 (dk_at dkX2_flawed 4 rfl) rfl (lv_at hl 0 rfl) ?_
  refine r_get (v := .int (rSt r_1)) C hK w.1 (fun w h => List.mem_cons_of_mem _ (inlX2 w h)) 0 rfl rfl 7 (by decide) (List.mem_cons_of_mem _ (inr7 _ (List.mem_of_getElem? (i := 6) rfl))) rfl (dk_at dkX2_flawed 5 rfl) ?_
  refine r_put (v := .int (rSt r_1)) C hK w (fun w h => List.mem_cons_of_mem _ (inlX2 w h)) tyX2 tyX2_ok nmX2 0 rfl rfl 4 (by decide) (List.mem_cons_of_mem _ (inr6 _ (List.mem_of_getElem? (i := 21) rfl))) rfl rfl rfl (Nat.le_of_ble_eq_true rfl) (dk_at dkX2_flawed 6 rfl) (fun H locs w => ?_)
  obtain ⟨r_2, er_2⟩ : ∃ z : RT, z = rPl' r_1 (rSt r_1) := ⟨_, rfl⟩
  have hf := nm_at er_2 hf
  have w : Wd g A Z.heap (wR g a_r a_dr r_2) H locs := by rw [er_2]; exact w
  refine lv_iconst (v := 0) C.1 C.2.1 (dk_at dkX2_flawed 7 rfl) (by decide) ?_
  cases hf
  exact fin _ _ _ _ _ (dk_at dkX2_flawed 8 rfl) rfl rfl w
-- X2.next
abbrev tbX2_next : List (Nat × Instr × Nat) := [(0, .aload_n 0, 1), (1, .getfield 22, 3), (4, .aload_n 0, 1), (5, .getfield 117, 3), (8, .if_icmp .ge 30, 3), (11, .aload_n 0, 1), (12, .getfield 9, 3), (15, .aload_n 0, 1), (16, .getfield 22, 3), (19, .baload, 1), (20, .bipush 32, 2), (22, .if_icmp .ne 16, 3), (25, .aload_n 0, 1), (26, .dup, 1), (27, .getfield 22, 3), (30, .iconst 1, 1), (31, .iadd, 1), (32, .putfield 22, 3), (35, .goto (-35), 3), (38, .aload_n 0, 1), (39, .aload_n 0, 1), (40, .getfield 22, 3), (43, .putfield 120, 3), (46, .aload_n 0, 1), (47, .getfield 22, 3), (50, .aload_n 0, 1), (51, .getfield 117, 3), (54, .if_icmp .lt 10, 3), (57, .aload_n 0, 1), (58, .iconst 0, 1), (59, .putfield 42, 3), (62, .iconst 1, 1), (63, .ireturn, 1), (64, .aload_n 0, 1), (65, .getfield 9, 3), (68, .aload_n 0, 1), (69, .getfield 22, 3), (72, .baload, 1), (73, .istore_n 1, 1), (74, .aload_n 0, 1), (75, .dup, 1), (76, .getfield 22, 3), (79, .iconst 1, 1), (80, .iadd, 1), (81, .putfield 22, 3), (84, .iload_n 1, 1), (85, .bipush 59, 2), (87, .if_icmp .ne 10, 3), (90, .aload_n 0, 1), (91, .iconst 3, 1), (92, .putfield 42, 3), (95, .iconst 1, 1), (96, .ireturn, 1), (97, .iload_n 1, 1), (98, .bipush 97, 2), (100, .if_icmp .lt 68, 3), (103, .iload_n 1, 1), (104, .bipush 122, 2), (106, .if_icmp .gt 62, 3), (109, .aload_n 0, 1), (110, .iconst 1, 1), (111, .putfield 42, 3), (114, .aload_n 0, 1), (115, .getfield 22, 3), (118, .aload_n 0, 1), (119, .getfield 117, 3), (122, .if_icmp .ge 44, 3), (125, .aload_n 0, 1), (126, .getfield 9, 3), (129, .aload_n 0, 1), (130, .getfield 22, 3), (133, .baload, 1), (134, .bipush 97, 2), (136, .if_icmp .lt 30, 3), (139, .aload_n 0, 1), (140, .getfield 9, 3), (143, .aload_n 0, 1), (144, .getfield 22, 3), (147, .baload, 1), (148, .bipush 122, 2), (150, .if_icmp .gt 16, 3), (153, .aload_n 0, 1), (154, .dup, 1), (155, .getfield 22, 3), (158, .iconst 1, 1), (159, .iadd, 1), (160, .putfield 22, 3), (163, .goto (-49), 3), (166, .iconst 1, 1), (167, .ireturn, 1), (168, .iload_n 1, 1), (169, .bipush 48, 2), (171, .if_icmp .lt 125, 3), (174, .iload_n 1, 1), (175, .bipush 57, 2), (177, .if_icmp .gt 119, 3), (180, .aload_n 0, 1), (181, .iconst 2, 1), (182, .putfield 42, 3), (185, .aload_n 0, 1), (186, .iload_n 1, 1), (187, .bipush 48, 2), (189, .isub, 1), (190, .putfield 81, 3), (193, .aload_n 0, 1), (194, .getfield 22, 3), (197, .aload_n 0, 1), (198, .getfield 117, 3), (201, .if_icmp .ge 68, 3), (204, .aload_n 0, 1), (205, .getfield 9, 3), (208, .aload_n 0, 1), (209, .getfield 22, 3), (212, .baload, 1), (213, .bipush 48, 2), (215, .if_icmp .lt 54, 3), (218, .aload_n 0, 1), (219, .getfield 9, 3), (222, .aload_n 0, 1), (223, .getfield 22, 3), (226, .baload, 1), (227, .bipush 57, 2), (229, .if_icmp .gt 40, 3), (232, .aload_n 0, 1), (233, .aload_n 0, 1), (234, .getfield 81, 3), (237, .bipush 10, 2), (239, .imul, 1), (240, .aload_n 0, 1), (241, .getfield 9, 3), (244, .aload_n 0, 1), (245, .getfield 22, 3), (248, .baload, 1), (249, .iadd, 1), (250, .bipush 48, 2), (252, .isub, 1), (253, .putfield 81, 3), (256, .aload_n 0, 1), (257, .dup, 1), (258, .getfield 22, 3), (261, .iconst 1, 1), (262, .iadd, 1), (263, .putfield 22, 3), (266, .goto (-73), 3), (269, .aload_n 0, 1), (270, .getfield 22, 3), (273, .aload_n 0, 1), (274, .getfield 120, 3), (277, .isub, 1), (278, .iconst 2, 1), (279, .if_icmp .le 11, 3), (282, .aload_n 0, 1), (283, .iconst 1, 1), (284, .invokevirtual 68, 3), (287, .ifCond .eq 7, 3), (290, .iconst 1, 1), (291, .goto 4, 3), (294, .iconst 0, 1), (295, .ireturn, 1), (296, .aload_n 0, 1), (297, .iconst 1, 1), (298, .invokevirtual 68, 3), (301, .ireturn, 1)]
theorem dkX2_next : dk cX2_next tbX2_next := dk_of (by decide +kernel)
abbrev cdX2_next : Cond := Cond.code yX2_next cX2_next 2 (some .boolean)
abbrev rmX2_next : Room := { frames := 1, cells := 0, slots := 0, locals := 21 }
theorem mwX2_next : Cond.instanceMethod yX2_next ∈ wsL_law ∧ Cond.selects RX2 yX2_next yX2_next ∈ wsL_law ∧ Cond.initialized RX2 ∈ wsL_law ∧ cdX2_next ∈ wsL_law := ⟨inr7 _ (List.mem_of_getElem? (i := 2) rfl), inr7 _ (List.mem_of_getElem? (i := 3) rfl), inr1 _ (List.mem_of_getElem? (i := 14) rfl), inr7 _ (List.mem_of_getElem? (i := 4) rfl)⟩
theorem hdX2_next : yX2_next.cls = RX2 ∧ yX2_next.cls ≠ "java/lang/invoke/MethodHandle" ∧ yX2_next.cls ≠ "java/lang/invoke/VarHandle" ∧ (parseMethodDescriptor yX2_next.desc).map (fun d => d.parameters.length) = some 0 := by decide +kernel
set_option maxHeartbeats 4000000 in
set_option maxRecDepth 100000 in
theorem kX2_next (l : Launch) (g : Gx) (sz : Nat) (a_r a_dr : Nat → Nat) (r : RT) (res : Int32) (r_o : RT) (hf : fX2_next r = some (res, r_o)) : Met l yX2_next (cdX2_next :: wsL_law) rmX2_next (va_Pc [.ref (a_r 0)] (RWp g sz (wR g a_r a_dr r))) (va_Qi (fun x (_ : Unit) => x = res) (fun _ => RWq g (va_A (wR g a_r a_dr r) sz) (wR g a_r a_dr r_o)) (va_A (wR g a_r a_dr r) sz)) 0 0 (va_A (wR g a_r a_dr r) sz) := by
  refine Met_rwz (cc := cX2_next) (maxL := 2) (by decide) rfl (Nat.le_of_ble_eq_true rfl) ?_
  intro P E Z Mi AR BE ME CO A Q C hK hA fin w ls hl
  have hl : lv_has ls 2 [(0, .ref (a_r 0))] := hl
  unfold fX2_next at hf
  have L2 : ∀ (K : RT → Option (Int32 × RT)), (∀ (r_1 : RT) (H : Heap) (locs : List Loc) (ls : Array Slot), Wd g A Z.heap (wR g a_r a_dr r_1) H locs → lv_has ls 2 [(0, .ref (a_r 0))] → K r_1 = some (res, r_o) → W P l E rmX2_next Z Mi AR BE ME CO H locs 0 0 Q (F0 Mi 38 ls [])) → ∀ (n : Nat), ∀ (r_1 : RT) (H : Heap) (locs : List Loc) (ls : Array Slot), Wd g A Z.heap (wR g a_r a_dr r_1) H locs → lv_has ls 2 [(0, .ref (a_r 0))] → fX2_next_L0 K n r_1 = some (res, r_o) → W P l E rmX2_next Z Mi AR BE ME CO H locs 0 0 Q (F0 Mi 0 ls []) := by
    intro K hKe n
    induction n with
    | zero => intro r_1 H locs ls w hl hf; cases hf
    | succ n ih =>
      intro r_1 H locs ls w hl hf
      rw [fX2_next_L0] at hf
      refine lv_aload_n C.1 C.2.1 (dk_at dkX2_next 0 rfl) rfl (lv_at hl 0 rfl) ?_
      refine r_get (v := .int (rAt r_1)) C hK w.1 (fun w h => List.mem_cons_of_mem _ (inlX2 w h)) 0 rfl rfl 5 (by decide) (List.mem_cons_of_mem _ (inr6 _ (List.mem_of_getElem? (i := 19) rfl))) rfl (dk_at dkX2_next 1 rfl) ?_
      refine lv_aload_n C.1 C.2.1 (dk_at dkX2_next 2 rfl) rfl (lv_at hl 0 rfl) ?_
      refine r_get (v := .int (rSz r_1)) C hK w.1 (fun w h => List.mem_cons_of_mem _ (inlX2 w h)) 0 rfl rfl 1 (by decide) (List.mem_cons_of_mem _ (inr7 _ (List.mem_of_getElem? (i := 5) rfl))) rfl (dk_at dkX2_next 3 rfl) ?_
      refine lv_icmp_ge (tgt := 38) C.1 C.2.1 (dk_at dkX2_next 4 rfl) (by decide) (fun c3 => ?_) (fun c3 => ?_)
      · have hf := (if_pos c3).symm.trans hf
        exact hKe r_1 _ _ _ w (lv_sub hl [0] rfl) hf
      · have hf := (if_neg c3).symm.trans hf
        refine lv_aload_n C.1 C.2.1 (dk_at dkX2_next 5 rfl) rfl (lv_at hl 0 rfl) ?_
        refine r_get (v := .ref (a_r 1)) C hK w.1 (fun w h => List.mem_cons_of_mem _ (inlX2 w h)) 0 rfl rfl 0 (by decide) (List.mem_cons_of_mem _ (inr2 _ (List.mem_of_getElem? (i := 14) rfl))) rfl (dk_at dkX2_next 6 rfl) ?_
        refine lv_aload_n C.1 C.2.1 (dk_at dkX2_next 7 rfl) rfl (lv_at hl 0 rfl) ?_
        refine r_get (v := .int (rAt r_1)) C hK w.1 (fun w h => List.mem_cons_of_mem _ (inlX2 w h)) 0 rfl rfl 5 (by decide) (List.mem_cons_of_mem _ (inr6 _ (List.mem_of_getElem? (i := 19) rfl))) rfl (dk_at dkX2_next 8 rfl) ?_
        obtain ⟨h4, hf⟩ := gd_at hf
        refine r_bald (k := (rAt r_1).toNatClampNeg) (f := (rTa r_1)) C hK w.1 1 rfl h4 rfl (dk_at dkX2_next 9 rfl) ?_
        refine lv_topi (fun x5 ex5 => ?_)
        have hf := nm_at ex5 hf
        refine lv_bipush (v := 32) C.1 C.2.1 (dk_at dkX2_next 10 rfl) (by decide) ?_
        refine lv_icmp_ne (tgt := 38) C.1 C.2.1 (dk_at dkX2_next 11 rfl) (by decide) (fun c6 => ?_) (fun c6 => ?_)
        · have hf := (if_neg c6).symm.trans hf
          exact hKe r_1 _ _ _ w (lv_sub hl [0] rfl) hf
        · have hf := (if_pos c6).symm.trans hf
          refine lv_aload_n C.1 C.2.1 (dk_at dkX2_next 12 rfl) rfl (lv_at hl 0 rfl) ?_
          refine lv_dup C.1 C.2.1 (dk_at dkX2_next 13 rfl) rfl ?_
          refine r_get (v := .int (rAt r_1)) C hK w.1 (fun w h => List.mem_cons_of_mem _ (inlX2 w h)) 0 rfl rfl 5 (by decide) (List.mem_cons_of_mem _ (inr6 _ (List.mem_of_getElem? (i := 19) rfl))) rfl (dk_at dkX2_next 14 rfl) ?_
          refine lv_iconst (v := 1) C.1 C.2.1 (dk_at dkX2_next 15 rfl) (by decide) ?_
          refine lv_iadd C.1 C.2.1 (dk_at dkX2_next 16 rfl) ?_
          refine lv_topi (fun x7 ex7 => ?_)
          have hf := nm_at ex7 hf
          refine r_put (v := .int x7) C hK w (fun w h => List.mem_cons_of_mem _ (inlX2 w h)) tyX2 tyX2_ok nmX2 0 rfl rfl 5 (by decide) (List.mem_cons_of_mem _ (inr6 _ (List.mem_of_getElem? (i := 19) rfl))) rfl rfl rfl (Nat.le_of_ble_eq_true rfl) (dk_at dkX2_next 17 rfl) (fun H locs w => ?_)
          obtain ⟨r_8, er_8⟩ : ∃ z : RT, z = rAt' r_1 x7 := ⟨_, rfl⟩
          have hf := nm_at er_8 hf
          have w : Wd g A Z.heap (wR g a_r a_dr r_8) H locs := by rw [er_8]; exact w
          refine lv_goto (tgt := 0) C.1 C.2.1 (dk_at dkX2_next 18 rfl) (by decide) ?_
          exact ih r_8 _ _ _ w (lv_sub hl [0] rfl) hf
  refine L2 _ ?_ 4096 r _ _ _ w (lv_sub hl [0] rfl) hf
  clear hf
  intro r_1 H locs ls w hl hf
  refine lv_aload_n C.1 C.2.1 (dk_at dkX2_next 19 rfl) rfl (lv_at hl 0 rfl) ?_
  refine lv_aload_n C.1 C.2.1 (dk_at dkX2_next 20 rfl) rfl (lv_at hl 0 rfl) ?_
  refine r_get (v := .int (rAt r_1)) C hK w.1 (fun w h => List.mem_cons_of_mem _ (inlX2 w h)) 0 rfl rfl 5 (by decide) (List.mem_cons_of_mem _ (inr6 _ (List.mem_of_getElem? (i := 19) rfl))) rfl (dk_at dkX2_next 21 rfl) ?_
  refine r_put (v := .int (rAt r_1)) C hK w (fun w h => List.mem_cons_of_mem _ (inlX2 w h)) tyX2 tyX2_ok nmX2 0 rfl rfl 7 (by decide) (List.mem_cons_of_mem _ (inr7 _ (List.mem_of_getElem? (i := 6) rfl))) rfl rfl rfl (Nat.le_of_ble_eq_true rfl) (dk_at dkX2_next 22 rfl) (fun H locs w => ?_)
  obtain ⟨r_9, er_9⟩ : ∃ z : RT, z = rSt' r_1 (rAt r_1) := ⟨_, rfl⟩
  have hf := nm_at er_9 hf
  have w : Wd g A Z.heap (wR g a_r a_dr r_9) H locs := by rw [er_9]; exact w
  refine lv_aload_n C.1 C.2.1 (dk_at dkX2_next 23 rfl) rfl (lv_at hl 0 rfl) ?_
  refine r_get (v := .int (rAt r_9)) C hK w.1 (fun w h => List.mem_cons_of_mem _ (inlX2 w h)) 0 rfl rfl 5 (by decide) (List.mem_cons_of_mem _ (inr6 _ (List.mem_of_getElem? (i := 19) rfl))) rfl (dk_at dkX2_next 24 rfl) ?_
  refine lv_aload_n C.1 C.2.1 (dk_at dkX2_next 25 rfl) rfl (lv_at hl 0 rfl) ?_
  refine r_get (v := .int (rSz r_9)) C hK w.1 (fun w h => List.mem_cons_of_mem _ (inlX2 w h)) 0 rfl rfl 1 (by decide) (List.mem_cons_of_mem _ (inr7 _ (List.mem_of_getElem? (i := 5) rfl))) rfl (dk_at dkX2_next 26 rfl) ?_
  refine lv_icmp_lt (tgt := 64) C.1 C.2.1 (dk_at dkX2_next 27 rfl) (by decide) (fun c10 => ?_) (fun c10 => ?_)
  · have hf := (if_pos c10).symm.trans hf
    refine lv_aload_n C.1 C.2.1 (dk_at dkX2_next 33 rfl) rfl (lv_at hl 0 rfl) ?_
    refine r_get (v := .ref (a_r 1)) C hK w.1 (fun w h => List.mem_cons_of_mem _ (inlX2 w h)) 0 rfl rfl 0 (by decide) (List.mem_cons_of_mem _ (inr2 _ (List.mem_of_getElem? (i := 14) rfl))) rfl (dk_at dkX2_next 34 rfl) ?_
    refine lv_aload_n C.1 C.2.1 (dk_at dkX2_next 35 rfl) rfl (lv_at hl 0 rfl) ?_
    refine r_get (v := .int (rAt r_9)) C hK w.1 (fun w h => List.mem_cons_of_mem _ (inlX2 w h)) 0 rfl rfl 5 (by decide) (List.mem_cons_of_mem _ (inr6 _ (List.mem_of_getElem? (i := 19) rfl))) rfl (dk_at dkX2_next 36 rfl) ?_
    obtain ⟨h11, hf⟩ := gd_at hf
    refine r_bald (k := (rAt r_9).toNatClampNeg) (f := (rTa r_9)) C hK w.1 1 rfl h11 rfl (dk_at dkX2_next 37 rfl) ?_
    refine lv_topi (fun x12 ex12 => ?_)
    have hf := nm_at ex12 hf
    refine lv_istore_n (lv' := [(1, .int x12), (0, .ref (a_r 0))]) C.1 C.2.1 (dk_at dkX2_next 38 rfl) rfl hl (by decide) rfl (fun ls hl => ?_)
    refine lv_aload_n C.1 C.2.1 (dk_at dkX2_next 39 rfl) rfl (lv_at hl 1 rfl) ?_
    refine lv_dup C.1 C.2.1 (dk_at dkX2_next 40 rfl) rfl ?_
    refine r_get (v := .int (rAt r_9)) C hK w.1 (fun w h => List.mem_cons_of_mem _ (inlX2 w h)) 0 rfl rfl 5 (by decide) (List.mem_cons_of_mem _ (inr6 _ (List.mem_of_getElem? (i := 19) rfl))) rfl (dk_at dkX2_next 41 rfl) ?_
    refine lv_iconst (v := 1) C.1 C.2.1 (dk_at dkX2_next 42 rfl) (by decide) ?_
    refine lv_iadd C.1 C.2.1 (dk_at dkX2_next 43 rfl) ?_
    refine lv_topi (fun x13 ex13 => ?_)
    have hf := nm_at ex13 hf
    refine r_put (v := .int x13) C hK w (fun w h => List.mem_cons_of_mem _ (inlX2 w h)) tyX2 tyX2_ok nmX2 0 rfl rfl 5 (by decide) (List.mem_cons_of_mem _ (inr6 _ (List.mem_of_getElem? (i := 19) rfl))) rfl rfl rfl (Nat.le_of_ble_eq_true rfl) (dk_at dkX2_next 44 rfl) (fun H locs w => ?_)
    obtain ⟨r_14, er_14⟩ : ∃ z : RT, z = rAt' r_9 x13 := ⟨_, rfl⟩
    have hf := nm_at er_14 hf
    have w : Wd g A Z.heap (wR g a_r a_dr r_14) H locs := by rw [er_14]; exact w
    refine lv_iload_n C.1 C.2.1 (dk_at dkX2_next 45 rfl) rfl (lv_at hl 0 rfl) ?_
    refine lv_bipush (v := 59) C.1 C.2.1 (dk_at dkX2_next 46 rfl) (by decide) ?_
    refine lv_icmp_ne (tgt := 97) C.1 C.2.1 (dk_at dkX2_next 47 rfl) (by decide) (fun c15 => ?_) (fun c15 => ?_)
    · have hf := (if_neg c15).symm.trans hf
      refine lv_iload_n C.1 C.2.1 (dk_at dkX2_next 53 rfl) rfl (lv_at hl 0 rfl) ?_
      refine lv_bipush (v := 97) C.1 C.2.1 (dk_at dkX2_next 54 rfl) (by decide) ?_
      refine lv_icmp_lt (tgt := 168) C.1 C.2.1 (dk_at dkX2_next 55 rfl) (by decide) (fun c16 => ?_) (fun c16 => ?_)
      · have hf := (if_pos c16).symm.trans hf
        refine lv_iload_n C.1 C.2.1 (dk_at dkX2_next 90 rfl) rfl (lv_at hl 0 rfl) ?_
        refine lv_bipush (v := 48) C.1 C.2.1 (dk_at dkX2_next 91 rfl) (by decide) ?_
        refine lv_icmp_lt (tgt := 296) C.1 C.2.1 (dk_at dkX2_next 92 rfl) (by decide) (fun c17 => ?_) (fun c17 => ?_)
        · have hf := (if_pos c17).symm.trans hf
          refine lv_aload_n C.1 C.2.1 (dk_at dkX2_next 159 rfl) rfl (lv_at hl 1 rfl) ?_
          refine lv_iconst (v := 1) C.1 C.2.1 (dk_at dkX2_next 160 rfl) (by decide) ?_
          obtain ⟨r18, r_19, hq20, hf⟩ := bd2_at hf
          refine r_rwi (As := [.int 1]) (rest := []) (wr := []) (ws' := wR g a_r a_dr r_19) C (kX2_flawed l g _ a_r a_dr r_14 1 r18 r_19 hq20) (cwV0 C (inr7 _ (List.mem_of_getElem? (i := 8) rfl)) mwX2_flawed hdX2_flawed ⟨Nat.le_of_ble_eq_true rfl, Nat.le_of_ble_eq_true rfl⟩) hK w hA [0, 1] [] [0, 1] (by decide) rfl rfl (by decide) (by decide) rfl (by decide) rfl rfl rfl hl.1 rfl (Nat.le_of_ble_eq_true rfl) ⟨Nat.zero_le _, Nat.zero_le _⟩ (dk_at dkX2_next 161 rfl) (fun H locs w => ?_)
          obtain ⟨h21, hf⟩ := gb_at hf
          cases hf
          exact fin _ _ _ _ _ (dk_at dkX2_next 162 rfl) h21 rfl w
        · have hf := (if_neg c17).symm.trans hf
          refine lv_iload_n C.1 C.2.1 (dk_at dkX2_next 93 rfl) rfl (lv_at hl 0 rfl) ?_
          refine lv_bipush (v := 57) C.1 C.2.1 (dk_at dkX2_next 94 rfl) (by decide) ?_
          refine lv_icmp_gt (tgt := 296) C.1 C.2.1 (dk_at dkX2_next 95 rfl) (by decide) (fun c22 => ?_) (fun c22 => ?_)
          · have hf := (if_pos c22).symm.trans hf
            refine lv_aload_n C.1 C.2.1 (dk_at dkX2_next 159 rfl) rfl (lv_at hl 1 rfl) ?_
            refine lv_iconst (v := 1) C.1 C.2.1 (dk_at dkX2_next 160 rfl) (by decide) ?_
            obtain ⟨r23, r_24, hq25, hf⟩ := bd2_at hf
            refine r_rwi (As := [.int 1]) (rest := []) (wr := []) (ws' := wR g a_r a_dr r_24) C (kX2_flawed l g _ a_r a_dr r_14 1 r23 r_24 hq25) (cwV0 C (inr7 _ (List.mem_of_getElem? (i := 8) rfl)) mwX2_flawed hdX2_flawed ⟨Nat.le_of_ble_eq_true rfl, Nat.le_of_ble_eq_true rfl⟩) hK w hA [0, 1] [] [0, 1] (by decide) rfl rfl (by decide) (by decide) rfl (by decide) rfl rfl rfl hl.1 rfl (Nat.le_of_ble_eq_true rfl) ⟨Nat.zero_le _, Nat.zero_le _⟩ (dk_at dkX2_next 161 rfl) (fun H locs w => ?_)
            obtain ⟨h26, hf⟩ := gb_at hf
            cases hf
            exact fin _ _ _ _ _ (dk_at dkX2_next 162 rfl) h26 rfl w
          · have hf := (if_neg c22).symm.trans hf
            refine lv_aload_n C.1 C.2.1 (dk_at dkX2_next 96 rfl) rfl (lv_at hl 1 rfl) ?_
            refine lv_iconst (v := 2) C.1 C.2.1 (dk_at dkX2_next 97 rfl) (by decide) ?_
            refine r_put (v := .int 2) C hK w (fun w h => List.mem_cons_of_mem _ (inlX2 w h)) tyX2 tyX2_ok nmX2 0 rfl rfl 6 (by decide) (List.mem_cons_of_mem _ (inr6 _ (List.mem_of_getElem? (i := 23) rfl))) rfl rfl rfl (Nat.le_of_ble_eq_true rfl) (dk_at dkX2_next 98 rfl) (fun H locs w => ?_)
            obtain ⟨r_27, er_27⟩ : ∃ z : RT, z = rTo' r_14 2 := ⟨_, rfl⟩
            have hf := nm_at er_27 hf
            have w : Wd g A Z.heap (wR g a_r a_dr r_27) H locs := by rw [er_27]; exact w
            refine lv_aload_n C.1 C.2.1 (dk_at dkX2_next 99 rfl) rfl (lv_at hl 1 rfl) ?_
            refine lv_iload_n C.1 C.2.1 (dk_at dkX2_next 100 rfl) rfl (lv_at hl 0 rfl) ?_
            refine lv_bipush (v := 48) C.1 C.2.1 (dk_at dkX2_next 101 rfl) (by decide) ?_
            refine lv_isub C.1 C.2.1 (dk_at dkX2_next 102 rfl) ?_
            refine lv_topi (fun x28 ex28 => ?_)
            have hf := nm_at ex28 hf
            refine r_put (v := .int x28) C hK w (fun w h => List.mem_cons_of_mem _ (inlX2 w h)) tyX2 tyX2_ok nmX2 0 rfl rfl 8 (by decide) (List.mem_cons_of_mem _ (inr7 _ (List.mem_of_getElem? (i := 7) rfl))) rfl rfl rfl (Nat.le_of_ble_eq_true rfl) (dk_at dkX2_next 103 rfl) (fun H locs w => ?_)
            obtain ⟨r_29, er_29⟩ : ∃ z : RT, z = rVa' r_27 x28 := ⟨_, rfl⟩
            have hf := nm_at er_29 hf
            have w : Wd g A Z.heap (wR g a_r a_dr r_29) H locs := by rw [er_29]; exact w
            have L31 : ∀ (K : RT → Option (Int32 × RT)), (∀ (r_30 : RT) (H : Heap) (locs : List Loc) (ls : Array Slot), Wd g A Z.heap (wR g a_r a_dr r_30) H locs → lv_has ls 2 [(0, .ref (a_r 0))] → K r_30 = some (res, r_o) → W P l E rmX2_next Z Mi AR BE ME CO H locs 0 0 Q (F0 Mi 269 ls [])) → ∀ (n : Nat), ∀ (r_30 : RT) (H : Heap) (locs : List Loc) (ls : Array Slot), Wd g A Z.heap (wR g a_r a_dr r_30) H locs → lv_has ls 2 [(0, .ref (a_r 0))] → fX2_next_L193 K n r_30 = some (res, r_o) → W P l E rmX2_next Z Mi AR BE ME CO H locs 0 0 Q (F0 Mi 193 ls []) := by
              intro K hKe n
              induction n with
              | zero => intro r_30 H locs ls w hl hf; cases hf
              | succ n ih =>
                intro r_30 H locs ls w hl hf
                rw [fX2_next_L193] at hf
                refine lv_aload_n C.1 C.2.1 (dk_at dkX2_next 104 rfl) rfl (lv_at hl 0 rfl) ?_
                refine r_get (v := .int (rAt r_30)) C hK w.1 (fun w h => List.mem_cons_of_mem _ (inlX2 w h)) 0 rfl rfl 5 (by decide) (List.mem_cons_of_mem _ (inr6 _ (List.mem_of_getElem? (i := 19) rfl))) rfl (dk_at dkX2_next 105 rfl) ?_
                refine lv_aload_n C.1 C.2.1 (dk_at dkX2_next 106 rfl) rfl (lv_at hl 0 rfl) ?_
                refine r_get (v := .int (rSz r_30)) C hK w.1 (fun w h => List.mem_cons_of_mem _ (inlX2 w h)) 0 rfl rfl 1 (by decide) (List.mem_cons_of_mem _ (inr7 _ (List.mem_of_getElem? (i := 5) rfl))) rfl (dk_at dkX2_next 107 rfl) ?_
                refine lv_icmp_ge (tgt := 269) C.1 C.2.1 (dk_at dkX2_next 108 rfl) (by decide) (fun c32 => ?_) (fun c32 => ?_)
                · have hf := (if_pos c32).symm.trans hf
                  exact hKe r_30 _ _ _ w (lv_sub hl [0] rfl) hf
                · have hf := (if_neg c32).symm.trans hf
                  refine lv_aload_n C.1 C.2.1 (dk_at dkX2_next 109 rfl) rfl (lv_at hl 0 rfl) ?_
                  refine r_get (v := .ref (a_r 1)) C hK w.1 (fun w h => List.mem_cons_of_mem _ (inlX2 w h)) 0 rfl rfl 0 (by decide) (List.mem_cons_of_mem _ (inr2 _ (List.mem_of_getElem? (i := 14) rfl))) rfl (dk_at dkX2_next 110 rfl) ?_
                  refine lv_aload_n C.1 C.2.1 (dk_at dkX2_next 111 rfl) rfl (lv_at hl 0 rfl) ?_
                  refine r_get (v := .int (rAt r_30)) C hK w.1 (fun w h => List.mem_cons_of_mem _ (inlX2 w h)) 0 rfl rfl 5 (by decide) (List.mem_cons_of_mem _ (inr6 _ (List.mem_of_getElem? (i := 19) rfl))) rfl (dk_at dkX2_next 112 rfl) ?_
                  obtain ⟨h33, hf⟩ := gd_at hf
                  refine r_bald (k := (rAt r_30).toNatClampNeg) (f := (rTa r_30)) C hK w.1 1 rfl h33 rfl (dk_at dkX2_next 113 rfl) ?_
                  refine lv_topi (fun x34 ex34 => ?_)
                  have hf := nm_at ex34 hf
                  refine lv_bipush (v := 48) C.1 C.2.1 (dk_at dkX2_next 114 rfl) (by decide) ?_
                  refine lv_icmp_lt (tgt := 269) C.1 C.2.1 (dk_at dkX2_next 115 rfl) (by decide) (fun c35 => ?_) (fun c35 => ?_)
                  · have hf := (if_pos c35).symm.trans hf
                    exact hKe r_30 _ _ _ w (lv_sub hl [0] rfl) hf
                  · have hf := (if_neg c35).symm.trans hf
                    refine lv_aload_n C.1 C.2.1 (dk_at dkX2_next 116 rfl) rfl (lv_at hl 0 rfl) ?_
                    refine r_get (v := .ref (a_r 1)) C hK w.1 (fun w h => List.mem_cons_of_mem _ (inlX2 w h)) 0 rfl rfl 0 (by decide) (List.mem_cons_of_mem _ (inr2 _ (List.mem_of_getElem? (i := 14) rfl))) rfl (dk_at dkX2_next 117 rfl) ?_
                    refine lv_aload_n C.1 C.2.1 (dk_at dkX2_next 118 rfl) rfl (lv_at hl 0 rfl) ?_
                    refine r_get (v := .int (rAt r_30)) C hK w.1 (fun w h => List.mem_cons_of_mem _ (inlX2 w h)) 0 rfl rfl 5 (by decide) (List.mem_cons_of_mem _ (inr6 _ (List.mem_of_getElem? (i := 19) rfl))) rfl (dk_at dkX2_next 119 rfl) ?_
                    obtain ⟨h36, hf⟩ := gd_at hf
                    refine r_bald (k := (rAt r_30).toNatClampNeg) (f := (rTa r_30)) C hK w.1 1 rfl h36 rfl (dk_at dkX2_next 120 rfl) ?_
                    refine lv_topi (fun x37 ex37 => ?_)
                    have hf := nm_at ex37 hf
                    refine lv_bipush (v := 57) C.1 C.2.1 (dk_at dkX2_next 121 rfl) (by decide) ?_
                    refine lv_icmp_gt (tgt := 269) C.1 C.2.1 (dk_at dkX2_next 122 rfl) (by decide) (fun c38 => ?_) (fun c38 => ?_)
                    · have hf := (if_pos c38).symm.trans hf
                      exact hKe r_30 _ _ _ w (lv_sub hl [0] rfl) hf
                    · have hf := (if_neg c38).symm.trans hf
                      refine lv_aload_n C.1 C.2.1 (dk_at dkX2_next 123 rfl) rfl (lv_at hl 0 rfl) ?_
                      refine lv_aload_n C.1 C.2.1 (dk_at dkX2_next 124 rfl) rfl (lv_at hl 0 rfl) ?_
                      refine r_get (v := .int (rVa r_30)) C hK w.1 (fun w h => List.mem_cons_of_mem _ (inlX2 w h)) 0 rfl rfl 8 (by decide) (List.mem_cons_of_mem _ (inr7 _ (List.mem_of_getElem? (i := 7) rfl))) rfl (dk_at dkX2_next 125 rfl) ?_
                      refine lv_bipush (v := 10) C.1 C.2.1 (dk_at dkX2_next 126 rfl) (by decide) ?_
                      refine lv_imul C.1 C.2.1 (dk_at dkX2_next 127 rfl) ?_
                      refine lv_topi (fun x39 ex39 => ?_)
                      have hf := nm_at ex39 hf
                      refine lv_aload_n C.1 C.2.1 (dk_at dkX2_next 128 rfl) rfl (lv_at hl 0 rfl) ?_
                      refine r_get (v := .ref (a_r 1)) C hK w.1 (fun w h => List.mem_cons_of_mem _ (inlX2 w h)) 0 rfl rfl 0 (by decide) (List.mem_cons_of_mem _ (inr2 _ (List.mem_of_getElem? (i := 14) rfl))) rfl (dk_at dkX2_next 129 rfl) ?_
                      refine lv_aload_n C.1 C.2.1 (dk_at dkX2_next 130 rfl) rfl (lv_at hl 0 rfl) ?_
                      refine r_get (v := .int (rAt r_30)) C hK w.1 (fun w h => List.mem_cons_of_mem _ (inlX2 w h)) 0 rfl rfl 5 (by decide) (List.mem_cons_of_mem _ (inr6 _ (List.mem_of_getElem? (i := 19) rfl))) rfl (dk_at dkX2_next 131 rfl) ?_
                      obtain ⟨h40, hf⟩ := gd_at hf
                      refine r_bald (k := (rAt r_30).toNatClampNeg) (f := (rTa r_30)) C hK w.1 1 rfl h40 rfl (dk_at dkX2_next 132 rfl) ?_
                      refine lv_iadd C.1 C.2.1 (dk_at dkX2_next 133 rfl) ?_
                      refine lv_topi (fun x41 ex41 => ?_)
                      have hf := nm_at ex41 hf
                      refine lv_bipush (v := 48) C.1 C.2.1 (dk_at dkX2_next 134 rfl) (by decide) ?_
                      refine lv_isub C.1 C.2.1 (dk_at dkX2_next 135 rfl) ?_
                      refine lv_topi (fun x42 ex42 => ?_)
                      have hf := nm_at ex42 hf
                      refine r_put (v := .int x42) C hK w (fun w h => List.mem_cons_of_mem _ (inlX2 w h)) tyX2 tyX2_ok nmX2 0 rfl rfl 8 (by decide) (List.mem_cons_of_mem _ (inr7 _ (List.mem_of_getElem? (i := 7) rfl))) rfl rfl rfl (Nat.le_of_ble_eq_true rfl) (dk_at dkX2_next 136 rfl) (fun H locs w => ?_)
                      obtain ⟨r_43, er_43⟩ : ∃ z : RT, z = rVa' r_30 x42 := ⟨_, rfl⟩
                      have hf := nm_at er_43 hf
                      have w : Wd g A Z.heap (wR g a_r a_dr r_43) H locs := by rw [er_43]; exact w
                      refine lv_aload_n C.1 C.2.1 (dk_at dkX2_next 137 rfl) rfl (lv_at hl 0 rfl) ?_
                      refine lv_dup C.1 C.2.1 (dk_at dkX2_next 138 rfl) rfl ?_
                      refine r_get (v := .int (rAt r_43)) C hK w.1 (fun w h => List.mem_cons_of_mem _ (inlX2 w h)) 0 rfl rfl 5 (by decide) (List.mem_cons_of_mem _ (inr6 _ (List.mem_of_getElem? (i := 19) rfl))) rfl (dk_at dkX2_next 139 rfl) ?_
                      refine lv_iconst (v := 1) C.1 C.2.1 (dk_at dkX2_next 140 rfl) (by decide) ?_
                      refine lv_iadd C.1 C.2.1 (dk_at dkX2_next 141 rfl) ?_
                      refine lv_topi (fun x44 ex44 => ?_)
                      have hf := nm_at ex44 hf
                      refine r_put (v := .int x44) C hK w (fun w h => List.mem_cons_of_mem _ (inlX2 w h)) tyX2 tyX2_ok nmX2 0 rfl rfl 5 (by decide) (List.mem_cons_of_mem _ (inr6 _ (List.mem_of_getElem? (i := 19) rfl))) rfl rfl rfl (Nat.le_of_ble_eq_true rfl) (dk_at dkX2_next 142 rfl) (fun H locs w => ?_)
                      obtain ⟨r_45, er_45⟩ : ∃ z : RT, z = rAt' r_43 x44 := ⟨_, rfl⟩
                      have hf := nm_at er_45 hf
                      have w : Wd g A Z.heap (wR g a_r a_dr r_45) H locs := by rw [er_45]; exact w
                      refine lv_goto (tgt := 193) C.1 C.2.1 (dk_at dkX2_next 143 rfl) (by decide) ?_
                      exact ih r_45 _ _ _ w (lv_sub hl [0] rfl) hf
            refine L31 _ ?_ 4096 r_29 _ _ _ w (lv_sub hl [1] rfl) hf
            clear hf
            intro r_30 H locs ls w hl hf
            refine lv_aload_n C.1 C.2.1 (dk_at dkX2_next 144 rfl) rfl (lv_at hl 0 rfl) ?_
            refine r_get (v := .int (rAt r_30)) C hK w.1 (fun w h => List.mem_cons_of_mem _ (inlX2 w h)) 0 rfl rfl 5 (by decide) (List.mem_cons_of_mem _ (inr6 _ (List.mem_of_getElem? (i := 19) rfl))) rfl (dk_at dkX2_next 145 rfl) ?_
            refine lv_aload_n C.1 C.2.1 (dk_at dkX2_next 146 rfl) rfl (lv_at hl 0 rfl) ?_
            refine r_get (v := .int (rSt r_30)) C hK w.1 (fun w h => List.mem_cons_of_mem _ (inlX2 w h)) 0 rfl rfl 7 (by decide) (List.mem_cons_of_mem _ (inr7 _ (List.mem_of_getElem? (i := 6) rfl))) rfl (dk_at dkX2_next 147 rfl) ?_
            refine lv_isub C.1 C.2.1 (dk_at dkX2_next 148 rfl) ?_
            refine lv_topi (fun x46 ex46 => ?_)
            have hf := nm_at ex46 hf
            refine lv_iconst (v := 2) C.1 C.2.1 (dk_at dkX2_next 149 rfl) (by decide) ?_
            refine lv_icmp_le (tgt := 290) C.1 C.2.1 (dk_at dkX2_next 150 rfl) (by decide) (fun c47 => ?_) (fun c47 => ?_)
            · have hf := (if_pos c47).symm.trans hf
              refine lv_iconst (v := 1) C.1 C.2.1 (dk_at dkX2_next 155 rfl) (by decide) ?_
              refine lv_goto (tgt := 295) C.1 C.2.1 (dk_at dkX2_next 156 rfl) (by decide) ?_
              cases hf
              exact fin _ _ _ _ _ (dk_at dkX2_next 158 rfl) rfl rfl w
            · have hf := (if_neg c47).symm.trans hf
              refine lv_aload_n C.1 C.2.1 (dk_at dkX2_next 151 rfl) rfl (lv_at hl 0 rfl) ?_
              refine lv_iconst (v := 1) C.1 C.2.1 (dk_at dkX2_next 152 rfl) (by decide) ?_
              obtain ⟨r48, r_49, hq50, hf⟩ := bd2_at hf
              refine r_rwi (As := [.int 1]) (rest := []) (wr := []) (ws' := wR g a_r a_dr r_49) C (kX2_flawed l g _ a_r a_dr r_30 1 r48 r_49 hq50) (cwV0 C (inr7 _ (List.mem_of_getElem? (i := 8) rfl)) mwX2_flawed hdX2_flawed ⟨Nat.le_of_ble_eq_true rfl, Nat.le_of_ble_eq_true rfl⟩) hK w hA [0, 1] [] [0, 1] (by decide) rfl rfl (by decide) (by decide) rfl (by decide) rfl rfl rfl hl.1 rfl (Nat.le_of_ble_eq_true rfl) ⟨Nat.zero_le _, Nat.zero_le _⟩ (dk_at dkX2_next 153 rfl) (fun H locs w => ?_)
              refine lv_if_eq (tgt := 294) C.1 C.2.1 (dk_at dkX2_next 154 rfl) (by decide) (fun c51 => ?_) (fun c51 => ?_)
              · have hf := (if_pos c51).symm.trans hf
                refine lv_iconst (v := 0) C.1 C.2.1 (dk_at dkX2_next 157 rfl) (by decide) ?_
                cases hf
                exact fin _ _ _ _ _ (dk_at dkX2_next 158 rfl) rfl rfl w
              · have hf := (if_neg c51).symm.trans hf
                refine lv_iconst (v := 1) C.1 C.2.1 (dk_at dkX2_next 155 rfl) (by decide) ?_
                refine lv_goto (tgt := 295) C.1 C.2.1 (dk_at dkX2_next 156 rfl) (by decide) ?_
                cases hf
                exact fin _ _ _ _ _ (dk_at dkX2_next 158 rfl) rfl rfl w
      · have hf := (if_neg c16).symm.trans hf
        refine lv_iload_n C.1 C.2.1 (dk_at dkX2_next 56 rfl) rfl (lv_at hl 0 rfl) ?_
        refine lv_bipush (v := 122) C.1 C.2.1 (dk_at dkX2_next 57 rfl) (by decide) ?_
        refine lv_icmp_gt (tgt := 168) C.1 C.2.1 (dk_at dkX2_next 58 rfl) (by decide) (fun c52 => ?_) (fun c52 => ?_)
        · have hf := (if_pos c52).symm.trans hf
          refine lv_iload_n C.1 C.2.1 (dk_at dkX2_next 90 rfl) rfl (lv_at hl 0 rfl) ?_
          refine lv_bipush (v := 48) C.1 C.2.1 (dk_at dkX2_next 91 rfl) (by decide) ?_
          refine lv_icmp_lt (tgt := 296) C.1 C.2.1 (dk_at dkX2_next 92 rfl) (by decide) (fun c53 => ?_) (fun c53 => ?_)
          · have hf := (if_pos c53).symm.trans hf
            refine lv_aload_n C.1 C.2.1 (dk_at dkX2_next 159 rfl) rfl (lv_at hl 1 rfl) ?_
            refine lv_iconst (v := 1) C.1 C.2.1 (dk_at dkX2_next 160 rfl) (by decide) ?_
            obtain ⟨r54, r_55, hq56, hf⟩ := bd2_at hf
            refine r_rwi (As := [.int 1]) (rest := []) (wr := []) (ws' := wR g a_r a_dr r_55) C (kX2_flawed l g _ a_r a_dr r_14 1 r54 r_55 hq56) (cwV0 C (inr7 _ (List.mem_of_getElem? (i := 8) rfl)) mwX2_flawed hdX2_flawed ⟨Nat.le_of_ble_eq_true rfl, Nat.le_of_ble_eq_true rfl⟩) hK w hA [0, 1] [] [0, 1] (by decide) rfl rfl (by decide) (by decide) rfl (by decide) rfl rfl rfl hl.1 rfl (Nat.le_of_ble_eq_true rfl) ⟨Nat.zero_le _, Nat.zero_le _⟩ (dk_at dkX2_next 161 rfl) (fun H locs w => ?_)
            obtain ⟨h57, hf⟩ := gb_at hf
            cases hf
            exact fin _ _ _ _ _ (dk_at dkX2_next 162 rfl) h57 rfl w
          · have hf := (if_neg c53).symm.trans hf
            refine lv_iload_n C.1 C.2.1 (dk_at dkX2_next 93 rfl) rfl (lv_at hl 0 rfl) ?_
            refine lv_bipush (v := 57) C.1 C.2.1 (dk_at dkX2_next 94 rfl) (by decide) ?_
            refine lv_icmp_gt (tgt := 296) C.1 C.2.1 (dk_at dkX2_next 95 rfl) (by decide) (fun c58 => ?_) (fun c58 => ?_)
            · have hf := (if_pos c58).symm.trans hf
              refine lv_aload_n C.1 C.2.1 (dk_at dkX2_next 159 rfl) rfl (lv_at hl 1 rfl) ?_
              refine lv_iconst (v := 1) C.1 C.2.1 (dk_at dkX2_next 160 rfl) (by decide) ?_
              obtain ⟨r59, r_60, hq61, hf⟩ := bd2_at hf
              refine r_rwi (As := [.int 1]) (rest := []) (wr := []) (ws' := wR g a_r a_dr r_60) C (kX2_flawed l g _ a_r a_dr r_14 1 r59 r_60 hq61) (cwV0 C (inr7 _ (List.mem_of_getElem? (i := 8) rfl)) mwX2_flawed hdX2_flawed ⟨Nat.le_of_ble_eq_true rfl, Nat.le_of_ble_eq_true rfl⟩) hK w hA [0, 1] [] [0, 1] (by decide) rfl rfl (by decide) (by decide) rfl (by decide) rfl rfl rfl hl.1 rfl (Nat.le_of_ble_eq_true rfl) ⟨Nat.zero_le _, Nat.zero_le _⟩ (dk_at dkX2_next 161 rfl) (fun H locs w => ?_)
              obtain ⟨h62, hf⟩ := gb_at hf
              cases hf
              exact fin _ _ _ _ _ (dk_at dkX2_next 162 rfl) h62 rfl w
            · have hf := (if_neg c58).symm.trans hf
              refine lv_aload_n C.1 C.2.1 (dk_at dkX2_next 96 rfl) rfl (lv_at hl 1 rfl) ?_
              refine lv_iconst (v := 2) C.1 C.2.1 (dk_at dkX2_next 97 rfl) (by decide) ?_
              refine r_put (v := .int 2) C hK w (fun w h => List.mem_cons_of_mem _ (inlX2 w h)) tyX2 tyX2_ok nmX2 0 rfl rfl 6 (by decide) (List.mem_cons_of_mem _ (inr6 _ (List.mem_of_getElem? (i := 23) rfl))) rfl rfl rfl (Nat.le_of_ble_eq_true rfl) (dk_at dkX2_next 98 rfl) (fun H locs w => ?_)
              obtain ⟨r_63, er_63⟩ : ∃ z : RT, z = rTo' r_14 2 := ⟨_, rfl⟩
              have hf := nm_at er_63 hf
              have w : Wd g A Z.heap (wR g a_r a_dr r_63) H locs := by rw [er_63]; exact w
              refine lv_aload_n C.1 C.2.1 (dk_at dkX2_next 99 rfl) rfl (lv_at hl 1 rfl) ?_
              refine lv_iload_n C.1 C.2.1 (dk_at dkX2_next 100 rfl) rfl (lv_at hl 0 rfl) ?_
              refine lv_bipush (v := 48) C.1 C.2.1 (dk_at dkX2_next 101 rfl) (by decide) ?_
              refine lv_isub C.1 C.2.1 (dk_at dkX2_next 102 rfl) ?_
              refine lv_topi (fun x64 ex64 => ?_)
              have hf := nm_at ex64 hf
              refine r_put (v := .int x64) C hK w (fun w h => List.mem_cons_of_mem _ (inlX2 w h)) tyX2 tyX2_ok nmX2 0 rfl rfl 8 (by decide) (List.mem_cons_of_mem _ (inr7 _ (List.mem_of_getElem? (i := 7) rfl))) rfl rfl rfl (Nat.le_of_ble_eq_true rfl) (dk_at dkX2_next 103 rfl) (fun H locs w => ?_)
              obtain ⟨r_65, er_65⟩ : ∃ z : RT, z = rVa' r_63 x64 := ⟨_, rfl⟩
              have hf := nm_at er_65 hf
              have w : Wd g A Z.heap (wR g a_r a_dr r_65) H locs := by rw [er_65]; exact w
              have L67 : ∀ (K : RT → Option (Int32 × RT)), (∀ (r_66 : RT) (H : Heap) (locs : List Loc) (ls : Array Slot), Wd g A Z.heap (wR g a_r a_dr r_66) H locs → lv_has ls 2 [(0, .ref (a_r 0))] → K r_66 = some (res, r_o) → W P l E rmX2_next Z Mi AR BE ME CO H locs 0 0 Q (F0 Mi 269 ls [])) → ∀ (n : Nat), ∀ (r_66 : RT) (H : Heap) (locs : List Loc) (ls : Array Slot), Wd g A Z.heap (wR g a_r a_dr r_66) H locs → lv_has ls 2 [(0, .ref (a_r 0))] → fX2_next_L193b2 K n r_66 = some (res, r_o) → W P l E rmX2_next Z Mi AR BE ME CO H locs 0 0 Q (F0 Mi 193 ls []) := by
                intro K hKe n
                induction n with
                | zero => intro r_66 H locs ls w hl hf; cases hf
                | succ n ih =>
                  intro r_66 H locs ls w hl hf
                  rw [fX2_next_L193b2] at hf
                  refine lv_aload_n C.1 C.2.1 (dk_at dkX2_next 104 rfl) rfl (lv_at hl 0 rfl) ?_
                  refine r_get (v := .int (rAt r_66)) C hK w.1 (fun w h => List.mem_cons_of_mem _ (inlX2 w h)) 0 rfl rfl 5 (by decide) (List.mem_cons_of_mem _ (inr6 _ (List.mem_of_getElem? (i := 19) rfl))) rfl (dk_at dkX2_next 105 rfl) ?_
                  refine lv_aload_n C.1 C.2.1 (dk_at dkX2_next 106 rfl) rfl (lv_at hl 0 rfl) ?_
                  refine r_get (v := .int (rSz r_66)) C hK w.1 (fun w h => List.mem_cons_of_mem _ (inlX2 w h)) 0 rfl rfl 1 (by decide) (List.mem_cons_of_mem _ (inr7 _ (List.mem_of_getElem? (i := 5) rfl))) rfl (dk_at dkX2_next 107 rfl) ?_
                  refine lv_icmp_ge (tgt := 269) C.1 C.2.1 (dk_at dkX2_next 108 rfl) (by decide) (fun c68 => ?_) (fun c68 => ?_)
                  · have hf := (if_pos c68).symm.trans hf
                    exact hKe r_66 _ _ _ w (lv_sub hl [0] rfl) hf
                  · have hf := (if_neg c68).symm.trans hf
                    refine lv_aload_n C.1 C.2.1 (dk_at dkX2_next 109 rfl) rfl (lv_at hl 0 rfl) ?_
                    refine r_get (v := .ref (a_r 1)) C hK w.1 (fun w h => List.mem_cons_of_mem _ (inlX2 w h)) 0 rfl rfl 0 (by decide) (List.mem_cons_of_mem _ (inr2 _ (List.mem_of_getElem? (i := 14) rfl))) rfl (dk_at dkX2_next 110 rfl) ?_
                    refine lv_aload_n C.1 C.2.1 (dk_at dkX2_next 111 rfl) rfl (lv_at hl 0 rfl) ?_
                    refine r_get (v := .int (rAt r_66)) C hK w.1 (fun w h => List.mem_cons_of_mem _ (inlX2 w h)) 0 rfl rfl 5 (by decide) (List.mem_cons_of_mem _ (inr6 _ (List.mem_of_getElem? (i := 19) rfl))) rfl (dk_at dkX2_next 112 rfl) ?_
                    obtain ⟨h69, hf⟩ := gd_at hf
                    refine r_bald (k := (rAt r_66).toNatClampNeg) (f := (rTa r_66)) C hK w.1 1 rfl h69 rfl (dk_at dkX2_next 113 rfl) ?_
                    refine lv_topi (fun x70 ex70 => ?_)
                    have hf := nm_at ex70 hf
                    refine lv_bipush (v := 48) C.1 C.2.1 (dk_at dkX2_next 114 rfl) (by decide) ?_
                    refine lv_icmp_lt (tgt := 269) C.1 C.2.1 (dk_at dkX2_next 115 rfl) (by decide) (fun c71 => ?_) (fun c71 => ?_)
                    · have hf := (if_pos c71).symm.trans hf
                      exact hKe r_66 _ _ _ w (lv_sub hl [0] rfl) hf
                    · have hf := (if_neg c71).symm.trans hf
                      refine lv_aload_n C.1 C.2.1 (dk_at dkX2_next 116 rfl) rfl (lv_at hl 0 rfl) ?_
                      refine r_get (v := .ref (a_r 1)) C hK w.1 (fun w h => List.mem_cons_of_mem _ (inlX2 w h)) 0 rfl rfl 0 (by decide) (List.mem_cons_of_mem _ (inr2 _ (List.mem_of_getElem? (i := 14) rfl))) rfl (dk_at dkX2_next 117 rfl) ?_
                      refine lv_aload_n C.1 C.2.1 (dk_at dkX2_next 118 rfl) rfl (lv_at hl 0 rfl) ?_
                      refine r_get (v := .int (rAt r_66)) C hK w.1 (fun w h => List.mem_cons_of_mem _ (inlX2 w h)) 0 rfl rfl 5 (by decide) (List.mem_cons_of_mem _ (inr6 _ (List.mem_of_getElem? (i := 19) rfl))) rfl (dk_at dkX2_next 119 rfl) ?_
                      obtain ⟨h72, hf⟩ := gd_at hf
                      refine r_bald (k := (rAt r_66).toNatClampNeg) (f := (rTa r_66)) C hK w.1 1 rfl h72 rfl (dk_at dkX2_next 120 rfl) ?_
                      refine lv_topi (fun x73 ex73 => ?_)
                      have hf := nm_at ex73 hf
                      refine lv_bipush (v := 57) C.1 C.2.1 (dk_at dkX2_next 121 rfl) (by decide) ?_
                      refine lv_icmp_gt (tgt := 269) C.1 C.2.1 (dk_at dkX2_next 122 rfl) (by decide) (fun c74 => ?_) (fun c74 => ?_)
                      · have hf := (if_pos c74).symm.trans hf
                        exact hKe r_66 _ _ _ w (lv_sub hl [0] rfl) hf
                      · have hf := (if_neg c74).symm.trans hf
                        refine lv_aload_n C.1 C.2.1 (dk_at dkX2_next 123 rfl) rfl (lv_at hl 0 rfl) ?_
                        refine lv_aload_n C.1 C.2.1 (dk_at dkX2_next 124 rfl) rfl (lv_at hl 0 rfl) ?_
                        refine r_get (v := .int (rVa r_66)) C hK w.1 (fun w h => List.mem_cons_of_mem _ (inlX2 w h)) 0 rfl rfl 8 (by decide) (List.mem_cons_of_mem _ (inr7 _ (List.mem_of_getElem? (i := 7) rfl))) rfl (dk_at dkX2_next 125 rfl) ?_
                        refine lv_bipush (v := 10) C.1 C.2.1 (dk_at dkX2_next 126 rfl) (by decide) ?_
                        refine lv_imul C.1 C.2.1 (dk_at dkX2_next 127 rfl) ?_
                        refine lv_topi (fun x75 ex75 => ?_)
                        have hf := nm_at ex75 hf
                        refine lv_aload_n C.1 C.2.1 (dk_at dkX2_next 128 rfl) rfl (lv_at hl 0 rfl) ?_
                        refine r_get (v := .ref (a_r 1)) C hK w.1 (fun w h => List.mem_cons_of_mem _ (inlX2 w h)) 0 rfl rfl 0 (by decide) (List.mem_cons_of_mem _ (inr2 _ (List.mem_of_getElem? (i := 14) rfl))) rfl (dk_at dkX2_next 129 rfl) ?_
                        refine lv_aload_n C.1 C.2.1 (dk_at dkX2_next 130 rfl) rfl (lv_at hl 0 rfl) ?_
                        refine r_get (v := .int (rAt r_66)) C hK w.1 (fun w h => List.mem_cons_of_mem _ (inlX2 w h)) 0 rfl rfl 5 (by decide) (List.mem_cons_of_mem _ (inr6 _ (List.mem_of_getElem? (i := 19) rfl))) rfl (dk_at dkX2_next 131 rfl) ?_
                        obtain ⟨h76, hf⟩ := gd_at hf
                        refine r_bald (k := (rAt r_66).toNatClampNeg) (f := (rTa r_66)) C hK w.1 1 rfl h76 rfl (dk_at dkX2_next 132 rfl) ?_
                        refine lv_iadd C.1 C.2.1 (dk_at dkX2_next 133 rfl) ?_
                        refine lv_topi (fun x77 ex77 => ?_)
                        have hf := nm_at ex77 hf
                        refine lv_bipush (v := 48) C.1 C.2.1 (dk_at dkX2_next 134 rfl) (by decide) ?_
                        refine lv_isub C.1 C.2.1 (dk_at dkX2_next 135 rfl) ?_
                        refine lv_topi (fun x78 ex78 => ?_)
                        have hf := nm_at ex78 hf
                        refine r_put (v := .int x78) C hK w (fun w h => List.mem_cons_of_mem _ (inlX2 w h)) tyX2 tyX2_ok nmX2 0 rfl rfl 8 (by decide) (List.mem_cons_of_mem _ (inr7 _ (List.mem_of_getElem? (i := 7) rfl))) rfl rfl rfl (Nat.le_of_ble_eq_true rfl) (dk_at dkX2_next 136 rfl) (fun H locs w => ?_)
                        obtain ⟨r_79, er_79⟩ : ∃ z : RT, z = rVa' r_66 x78 := ⟨_, rfl⟩
                        have hf := nm_at er_79 hf
                        have w : Wd g A Z.heap (wR g a_r a_dr r_79) H locs := by rw [er_79]; exact w
                        refine lv_aload_n C.1 C.2.1 (dk_at dkX2_next 137 rfl) rfl (lv_at hl 0 rfl) ?_
                        refine lv_dup C.1 C.2.1 (dk_at dkX2_next 138 rfl) rfl ?_
                        refine r_get (v := .int (rAt r_79)) C hK w.1 (fun w h => List.mem_cons_of_mem _ (inlX2 w h)) 0 rfl rfl 5 (by decide) (List.mem_cons_of_mem _ (inr6 _ (List.mem_of_getElem? (i := 19) rfl))) rfl (dk_at dkX2_next 139 rfl) ?_
                        refine lv_iconst (v := 1) C.1 C.2.1 (dk_at dkX2_next 140 rfl) (by decide) ?_
                        refine lv_iadd C.1 C.2.1 (dk_at dkX2_next 141 rfl) ?_
                        refine lv_topi (fun x80 ex80 => ?_)
                        have hf := nm_at ex80 hf
                        refine r_put (v := .int x80) C hK w (fun w h => List.mem_cons_of_mem _ (inlX2 w h)) tyX2 tyX2_ok nmX2 0 rfl rfl 5 (by decide) (List.mem_cons_of_mem _ (inr6 _ (List.mem_of_getElem? (i := 19) rfl))) rfl rfl rfl (Nat.le_of_ble_eq_true rfl) (dk_at dkX2_next 142 rfl) (fun H locs w => ?_)
                        obtain ⟨r_81, er_81⟩ : ∃ z : RT, z = rAt' r_79 x80 := ⟨_, rfl⟩
                        have hf := nm_at er_81 hf
                        have w : Wd g A Z.heap (wR g a_r a_dr r_81) H locs := by rw [er_81]; exact w
                        refine lv_goto (tgt := 193) C.1 C.2.1 (dk_at dkX2_next 143 rfl) (by decide) ?_
                        exact ih r_81 _ _ _ w (lv_sub hl [0] rfl) hf
              refine L67 _ ?_ 4096 r_65 _ _ _ w (lv_sub hl [1] rfl) hf
              clear hf
              intro r_66 H locs ls w hl hf
              refine lv_aload_n C.1 C.2.1 (dk_at dkX2_next 144 rfl) rfl (lv_at hl 0 rfl) ?_
              refine r_get (v := .int (rAt r_66)) C hK w.1 (fun w h => List.mem_cons_of_mem _ (inlX2 w h)) 0 rfl rfl 5 (by decide) (List.mem_cons_of_mem _ (inr6 _ (List.mem_of_getElem? (i := 19) rfl))) rfl (dk_at dkX2_next 145 rfl) ?_
              refine lv_aload_n C.1 C.2.1 (dk_at dkX2_next 146 rfl) rfl (lv_at hl 0 rfl) ?_
              refine r_get (v := .int (rSt r_66)) C hK w.1 (fun w h => List.mem_cons_of_mem _ (inlX2 w h)) 0 rfl rfl 7 (by decide) (List.mem_cons_of_mem _ (inr7 _ (List.mem_of_getElem? (i := 6) rfl))) rfl (dk_at dkX2_next 147 rfl) ?_
              refine lv_isub C.1 C.2.1 (dk_at dkX2_next 148 rfl) ?_
              refine lv_topi (fun x82 ex82 => ?_)
              have hf := nm_at ex82 hf
              refine lv_iconst (v := 2) C.1 C.2.1 (dk_at dkX2_next 149 rfl) (by decide) ?_
              refine lv_icmp_le (tgt := 290) C.1 C.2.1 (dk_at dkX2_next 150 rfl) (by decide) (fun c83 => ?_) (fun c83 => ?_)
              · have hf := (if_pos c83).symm.trans hf
                refine lv_iconst (v := 1) C.1 C.2.1 (dk_at dkX2_next 155 rfl) (by decide) ?_
                refine lv_goto (tgt := 295) C.1 C.2.1 (dk_at dkX2_next 156 rfl) (by decide) ?_
                cases hf
                exact fin _ _ _ _ _ (dk_at dkX2_next 158 rfl) rfl rfl w
              · have hf := (if_neg c83).symm.trans hf
                refine lv_aload_n C.1 C.2.1 (dk_at dkX2_next 151 rfl) rfl (lv_at hl 0 rfl) ?_
                refine lv_iconst (v := 1) C.1 C.2.1 (dk_at dkX2_next 152 rfl) (by decide) ?_
                obtain ⟨r84, r_85, hq86, hf⟩ := bd2_at hf
                refine r_rwi (As := [.int 1]) (rest := []) (wr := []) (ws' := wR g a_r a_dr r_85) C (kX2_flawed l g _ a_r a_dr r_66 1 r84 r_85 hq86) (cwV0 C (inr7 _ (List.mem_of_getElem? (i := 8) rfl)) mwX2_flawed hdX2_flawed ⟨Nat.le_of_ble_eq_true rfl, Nat.le_of_ble_eq_true rfl⟩) hK w hA [0, 1] [] [0, 1] (by decide) rfl rfl (by decide) (by decide) rfl (by decide) rfl rfl rfl hl.1 rfl (Nat.le_of_ble_eq_true rfl) ⟨Nat.zero_le _, Nat.zero_le _⟩ (dk_at dkX2_next 153 rfl) (fun H locs w => ?_)
                refine lv_if_eq (tgt := 294) C.1 C.2.1 (dk_at dkX2_next 154 rfl) (by decide) (fun c87 => ?_) (fun c87 => ?_)
                · have hf := (if_pos c87).symm.trans hf
                  refine lv_iconst (v := 0) C.1 C.2.1 (dk_at dkX2_next 157 rfl) (by decide) ?_
                  cases hf
                  exact fin _ _ _ _ _ (dk_at dkX2_next 158 rfl) rfl rfl w
                · have hf := (if_neg c87).symm.trans hf
                  refine lv_iconst (v := 1) C.1 C.2.1 (dk_at dkX2_next 155 rfl) (by decide) ?_
                  refine lv_goto (tgt := 295) C.1 C.2.1 (dk_at dkX2_next 156 rfl) (by decide) ?_
                  cases hf
                  exact fin _ _ _ _ _ (dk_at dkX2_next 158 rfl) rfl rfl w
        · have hf := (if_neg c52).symm.trans hf
          refine lv_aload_n C.1 C.2.1 (dk_at dkX2_next 59 rfl) rfl (lv_at hl 1 rfl) ?_
          refine lv_iconst (v := 1) C.1 C.2.1 (dk_at dkX2_next 60 rfl) (by decide) ?_
          refine r_put (v := .int 1) C hK w (fun w h => List.mem_cons_of_mem _ (inlX2 w h)) tyX2 tyX2_ok nmX2 0 rfl rfl 6 (by decide) (List.mem_cons_of_mem _ (inr6 _ (List.mem_of_getElem? (i := 23) rfl))) rfl rfl rfl (Nat.le_of_ble_eq_true rfl) (dk_at dkX2_next 61 rfl) (fun H locs w => ?_)
          obtain ⟨r_88, er_88⟩ : ∃ z : RT, z = rTo' r_14 1 := ⟨_, rfl⟩
          have hf := nm_at er_88 hf
          have w : Wd g A Z.heap (wR g a_r a_dr r_88) H locs := by rw [er_88]; exact w
          have L90 : ∀ (K : RT → Option (Int32 × RT)), (∀ (r_89 : RT) (H : Heap) (locs : List Loc) (ls : Array Slot), Wd g A Z.heap (wR g a_r a_dr r_89) H locs → lv_has ls 2 [] → K r_89 = some (res, r_o) → W P l E rmX2_next Z Mi AR BE ME CO H locs 0 0 Q (F0 Mi 166 ls [])) → ∀ (n : Nat), ∀ (r_89 : RT) (H : Heap) (locs : List Loc) (ls : Array Slot), Wd g A Z.heap (wR g a_r a_dr r_89) H locs → lv_has ls 2 [(0, .ref (a_r 0))] → fX2_next_L114 K n r_89 = some (res, r_o) → W P l E rmX2_next Z Mi AR BE ME CO H locs 0 0 Q (F0 Mi 114 ls []) := by
            intro K hKe n
            induction n with
            | zero => intro r_89 H locs ls w hl hf; cases hf
            | succ n ih =>
              intro r_89 H locs ls w hl hf
              rw [fX2_next_L114] at hf
              refine lv_aload_n C.1 C.2.1 (dk_at dkX2_next 62 rfl) rfl (lv_at hl 0 rfl) ?_
              refine r_get (v := .int (rAt r_89)) C hK w.1 (fun w h => List.mem_cons_of_mem _ (inlX2 w h)) 0 rfl rfl 5 (by decide) (List.mem_cons_of_mem _ (inr6 _ (List.mem_of_getElem? (i := 19) rfl))) rfl (dk_at dkX2_next 63 rfl) ?_
              refine lv_aload_n C.1 C.2.1 (dk_at dkX2_next 64 rfl) rfl (lv_at hl 0 rfl) ?_
              refine r_get (v := .int (rSz r_89)) C hK w.1 (fun w h => List.mem_cons_of_mem _ (inlX2 w h)) 0 rfl rfl 1 (by decide) (List.mem_cons_of_mem _ (inr7 _ (List.mem_of_getElem? (i := 5) rfl))) rfl (dk_at dkX2_next 65 rfl) ?_
              refine lv_icmp_ge (tgt := 166) C.1 C.2.1 (dk_at dkX2_next 66 rfl) (by decide) (fun c91 => ?_) (fun c91 => ?_)
              · have hf := (if_pos c91).symm.trans hf
                exact hKe r_89 _ _ _ w (lv_sub hl [] rfl) hf
              · have hf := (if_neg c91).symm.trans hf
                refine lv_aload_n C.1 C.2.1 (dk_at dkX2_next 67 rfl) rfl (lv_at hl 0 rfl) ?_
                refine r_get (v := .ref (a_r 1)) C hK w.1 (fun w h => List.mem_cons_of_mem _ (inlX2 w h)) 0 rfl rfl 0 (by decide) (List.mem_cons_of_mem _ (inr2 _ (List.mem_of_getElem? (i := 14) rfl))) rfl (dk_at dkX2_next 68 rfl) ?_
                refine lv_aload_n C.1 C.2.1 (dk_at dkX2_next 69 rfl) rfl (lv_at hl 0 rfl) ?_
                refine r_get (v := .int (rAt r_89)) C hK w.1 (fun w h => List.mem_cons_of_mem _ (inlX2 w h)) 0 rfl rfl 5 (by decide) (List.mem_cons_of_mem _ (inr6 _ (List.mem_of_getElem? (i := 19) rfl))) rfl (dk_at dkX2_next 70 rfl) ?_
                obtain ⟨h92, hf⟩ := gd_at hf
                refine r_bald (k := (rAt r_89).toNatClampNeg) (f := (rTa r_89)) C hK w.1 1 rfl h92 rfl (dk_at dkX2_next 71 rfl) ?_
                refine lv_topi (fun x93 ex93 => ?_)
                have hf := nm_at ex93 hf
                refine lv_bipush (v := 97) C.1 C.2.1 (dk_at dkX2_next 72 rfl) (by decide) ?_
                refine lv_icmp_lt (tgt := 166) C.1 C.2.1 (dk_at dkX2_next 73 rfl) (by decide) (fun c94 => ?_) (fun c94 => ?_)
                · have hf := (if_pos c94).symm.trans hf
                  exact hKe r_89 _ _ _ w (lv_sub hl [] rfl) hf
                · have hf := (if_neg c94).symm.trans hf
                  refine lv_aload_n C.1 C.2.1 (dk_at dkX2_next 74 rfl) rfl (lv_at hl 0 rfl) ?_
                  refine r_get (v := .ref (a_r 1)) C hK w.1 (fun w h => List.mem_cons_of_mem _ (inlX2 w h)) 0 rfl rfl 0 (by decide) (List.mem_cons_of_mem _ (inr2 _ (List.mem_of_getElem? (i := 14) rfl))) rfl (dk_at dkX2_next 75 rfl) ?_
                  refine lv_aload_n C.1 C.2.1 (dk_at dkX2_next 76 rfl) rfl (lv_at hl 0 rfl) ?_
                  refine r_get (v := .int (rAt r_89)) C hK w.1 (fun w h => List.mem_cons_of_mem _ (inlX2 w h)) 0 rfl rfl 5 (by decide) (List.mem_cons_of_mem _ (inr6 _ (List.mem_of_getElem? (i := 19) rfl))) rfl (dk_at dkX2_next 77 rfl) ?_
                  obtain ⟨h95, hf⟩ := gd_at hf
                  refine r_bald (k := (rAt r_89).toNatClampNeg) (f := (rTa r_89)) C hK w.1 1 rfl h95 rfl (dk_at dkX2_next 78 rfl) ?_
                  refine lv_topi (fun x96 ex96 => ?_)
                  have hf := nm_at ex96 hf
                  refine lv_bipush (v := 122) C.1 C.2.1 (dk_at dkX2_next 79 rfl) (by decide) ?_
                  refine lv_icmp_gt (tgt := 166) C.1 C.2.1 (dk_at dkX2_next 80 rfl) (by decide) (fun c97 => ?_) (fun c97 => ?_)
                  · have hf := (if_pos c97).symm.trans hf
                    exact hKe r_89 _ _ _ w (lv_sub hl [] rfl) hf
                  · have hf := (if_neg c97).symm.trans hf
                    refine lv_aload_n C.1 C.2.1 (dk_at dkX2_next 81 rfl) rfl (lv_at hl 0 rfl) ?_
                    refine lv_dup C.1 C.2.1 (dk_at dkX2_next 82 rfl) rfl ?_
                    refine r_get (v := .int (rAt r_89)) C hK w.1 (fun w h => List.mem_cons_of_mem _ (inlX2 w h)) 0 rfl rfl 5 (by decide) (List.mem_cons_of_mem _ (inr6 _ (List.mem_of_getElem? (i := 19) rfl))) rfl (dk_at dkX2_next 83 rfl) ?_
                    refine lv_iconst (v := 1) C.1 C.2.1 (dk_at dkX2_next 84 rfl) (by decide) ?_
                    refine lv_iadd C.1 C.2.1 (dk_at dkX2_next 85 rfl) ?_
                    refine lv_topi (fun x98 ex98 => ?_)
                    have hf := nm_at ex98 hf
                    refine r_put (v := .int x98) C hK w (fun w h => List.mem_cons_of_mem _ (inlX2 w h)) tyX2 tyX2_ok nmX2 0 rfl rfl 5 (by decide) (List.mem_cons_of_mem _ (inr6 _ (List.mem_of_getElem? (i := 19) rfl))) rfl rfl rfl (Nat.le_of_ble_eq_true rfl) (dk_at dkX2_next 86 rfl) (fun H locs w => ?_)
                    obtain ⟨r_99, er_99⟩ : ∃ z : RT, z = rAt' r_89 x98 := ⟨_, rfl⟩
                    have hf := nm_at er_99 hf
                    have w : Wd g A Z.heap (wR g a_r a_dr r_99) H locs := by rw [er_99]; exact w
                    refine lv_goto (tgt := 114) C.1 C.2.1 (dk_at dkX2_next 87 rfl) (by decide) ?_
                    exact ih r_99 _ _ _ w (lv_sub hl [0] rfl) hf
          refine L90 _ ?_ 4096 r_88 _ _ _ w (lv_sub hl [1] rfl) hf
          clear hf
          intro r_89 H locs ls w hl hf
          refine lv_iconst (v := 1) C.1 C.2.1 (dk_at dkX2_next 88 rfl) (by decide) ?_
          cases hf
          exact fin _ _ _ _ _ (dk_at dkX2_next 89 rfl) rfl rfl w
    · have hf := (if_pos c15).symm.trans hf
      refine lv_aload_n C.1 C.2.1 (dk_at dkX2_next 48 rfl) rfl (lv_at hl 1 rfl) ?_
      refine lv_iconst (v := 3) C.1 C.2.1 (dk_at dkX2_next 49 rfl) (by decide) ?_
      refine r_put (v := .int 3) C hK w (fun w h => List.mem_cons_of_mem _ (inlX2 w h)) tyX2 tyX2_ok nmX2 0 rfl rfl 6 (by decide) (List.mem_cons_of_mem _ (inr6 _ (List.mem_of_getElem? (i := 23) rfl))) rfl rfl rfl (Nat.le_of_ble_eq_true rfl) (dk_at dkX2_next 50 rfl) (fun H locs w => ?_)
      obtain ⟨r_100, er_100⟩ : ∃ z : RT, z = rTo' r_14 3 := ⟨_, rfl⟩
      have hf := nm_at er_100 hf
      have w : Wd g A Z.heap (wR g a_r a_dr r_100) H locs := by rw [er_100]; exact w
      refine lv_iconst (v := 1) C.1 C.2.1 (dk_at dkX2_next 51 rfl) (by decide) ?_
      cases hf
      exact fin _ _ _ _ _ (dk_at dkX2_next 52 rfl) rfl rfl w
  · have hf := (if_neg c10).symm.trans hf
    refine lv_aload_n C.1 C.2.1 (dk_at dkX2_next 28 rfl) rfl (lv_at hl 0 rfl) ?_
    refine lv_iconst (v := 0) C.1 C.2.1 (dk_at dkX2_next 29 rfl) (by decide) ?_
    refine r_put (v := .int 0) C hK w (fun w h => List.mem_cons_of_mem _ (inlX2 w h)) tyX2 tyX2_ok nmX2 0 rfl rfl 6 (by decide) (List.mem_cons_of_mem _ (inr6 _ (List.mem_of_getElem? (i := 23) rfl))) rfl rfl rfl (Nat.le_of_ble_eq_true rfl) (dk_at dkX2_next 30 rfl) (fun H locs w => ?_)
    obtain ⟨r_101, er_101⟩ : ∃ z : RT, z = rTo' r_9 0 := ⟨_, rfl⟩
    have hf := nm_at er_101 hf
    have w : Wd g A Z.heap (wR g a_r a_dr r_101) H locs := by rw [er_101]; exact w
    refine lv_iconst (v := 1) C.1 C.2.1 (dk_at dkX2_next 31 rfl) (by decide) ?_
    cases hf
    exact fin _ _ _ _ _ (dk_at dkX2_next 32 rfl) rfl rfl w
-- X2.readNumber
abbrev tbX2_readNumber : List (Nat × Instr × Nat) := [(0, .aload_n 0, 1), (1, .invokevirtual 38, 3), (4, .ifCond .ne 5, 3), (7, .iconst 0, 1), (8, .ireturn, 1), (9, .aload_n 0, 1), (10, .getfield 42, 3), (13, .iconst 2, 1), (14, .if_icmp .eq 9, 3), (17, .aload_n 0, 1), (18, .iconst 2, 1), (19, .invokevirtual 68, 3), (22, .ireturn, 1), (23, .iload_n 1, 1), (24, .aload_n 0, 1), (25, .getfield 81, 3), (28, .invokestatic 113, 3), (31, .ifCond .ne 11, 3), (34, .aload_n 0, 1), (35, .iconst 3, 1), (36, .invokevirtual 68, 3), (39, .ifCond .eq 7, 3), (42, .iconst 1, 1), (43, .goto 4, 3), (46, .iconst 0, 1), (47, .ireturn, 1)]
theorem dkX2_readNumber : dk cX2_readNumber tbX2_readNumber := dk_of (by decide +kernel)
abbrev cdX2_readNumber : Cond := Cond.code yX2_readNumber cX2_readNumber 2 (some .boolean)
abbrev rmX2_readNumber : Room := { frames := 2, cells := 0, slots := 0, locals := 42 }
theorem mwX2_readNumber : Cond.instanceMethod yX2_readNumber ∈ wsL_law ∧ Cond.selects RX2 yX2_readNumber yX2_readNumber ∈ wsL_law ∧ Cond.initialized RX2 ∈ wsL_law ∧ cdX2_readNumber ∈ wsL_law := ⟨inr10 _ (List.mem_of_getElem? (i := 11) rfl), inr10 _ (List.mem_of_getElem? (i := 12) rfl), inr1 _ (List.mem_of_getElem? (i := 14) rfl), inr10 _ (List.mem_of_getElem? (i := 13) rfl)⟩
theorem hdX2_readNumber : yX2_readNumber.cls = RX2 ∧ yX2_readNumber.cls ≠ "java/lang/invoke/MethodHandle" ∧ yX2_readNumber.cls ≠ "java/lang/invoke/VarHandle" ∧ (parseMethodDescriptor yX2_readNumber.desc).map (fun d => d.parameters.length) = some 1 := by decide +kernel
set_option maxHeartbeats 4000000 in
set_option maxRecDepth 100000 in
theorem kX2_readNumber (l : Launch) (g : Gx) (sz : Nat) (a_r a_dr : Nat → Nat) (r : RT) (p1 : Int32) (res : Int32) (r_o : RT) (hf : fX2_readNumber p1 r = some (res, r_o)) : Met l yX2_readNumber (cdX2_readNumber :: wsL_law) rmX2_readNumber (va_Pc [.ref (a_r 0), .int p1] (RWp g sz (wR g a_r a_dr r))) (va_Qi (fun x (_ : Unit) => x = res) (fun _ => RWq g (va_A (wR g a_r a_dr r) sz) (wR g a_r a_dr r_o)) (va_A (wR g a_r a_dr r) sz)) 0 0 (va_A (wR g a_r a_dr r) sz) := by
  refine Met_rwz (cc := cX2_readNumber) (maxL := 2) (by decide) rfl (Nat.le_of_ble_eq_true rfl) ?_
  intro P E Z Mi AR BE ME CO A Q C hK hA fin w ls hl
  have hl : lv_has ls 2 [(0, .ref (a_r 0)), (1, .int p1)] := hl
  unfold fX2_readNumber at hf
  refine lv_aload_n C.1 C.2.1 (dk_at dkX2_readNumber 0 rfl) rfl (lv_at hl 0 rfl) ?_
  obtain ⟨r1, r_2, hq3, hf⟩ := bd2_at hf
  refine r_rwi (As := []) (rest := []) (wr := []) (ws' := wR g a_r a_dr r_2) C (kX2_next l g _ a_r a_dr r r1 r_2 hq3) (cwV0 C (inr7 _ (List.mem_of_getElem? (i := 1) rfl)) mwX2_next hdX2_next ⟨Nat.le_of_ble_eq_true rfl, Nat.le_of_ble_eq_true rfl⟩) hK w hA [0, 1] [] [0, 1] (by decide) rfl rfl (by decide) (by decide) rfl (by decide) rfl rfl rfl hl.1 rfl (Nat.le_of_ble_eq_true rfl) ⟨Nat.zero_le _, Nat.zero_le _⟩ (dk_at dkX2_readNumber 1 rfl) (fun H locs w => ?_)
  refine lv_if_ne (tgt := 9) C.1 C.2.1 (dk_at dkX2_readNumber 2 rfl) (by decide) (fun c4 => ?_) (fun c4 => ?_)
  · have hf := (if_neg c4).symm.trans hf
    refine lv_aload_n C.1 C.2.1 (dk_at dkX2_readNumber 5 rfl) rfl (lv_at hl 0 rfl) ?_
    refine r_get (v := .int (rTo r_2)) C hK w.1 (fun w h => List.mem_cons_of_mem _ (inlX2 w h)) 0 rfl rfl 6 (by decide) (List.mem_cons_of_mem _ (inr6 _ (List.mem_of_getElem? (i := 23) rfl))) rfl (dk_at dkX2_readNumber 6 rfl) ?_
    refine lv_iconst (v := 2) C.1 C.2.1 (dk_at dkX2_readNumber 7 rfl) (by decide) ?_
    refine lv_icmp_eq (tgt := 23) C.1 C.2.1 (dk_at dkX2_readNumber 8 rfl) (by decide) (fun c5 => ?_) (fun c5 => ?_)
    · have hf := (if_pos c5).symm.trans hf
      refine lv_iload_n C.1 C.2.1 (dk_at dkX2_readNumber 13 rfl) rfl (lv_at hl 1 rfl) ?_
      refine lv_aload_n C.1 C.2.1 (dk_at dkX2_readNumber 14 rfl) rfl (lv_at hl 0 rfl) ?_
      refine r_get (v := .int (rVa r_2)) C hK w.1 (fun w h => List.mem_cons_of_mem _ (inlX2 w h)) 0 rfl rfl 8 (by decide) (List.mem_cons_of_mem _ (inr7 _ (List.mem_of_getElem? (i := 7) rfl))) rfl (dk_at dkX2_readNumber 15 rfl) ?_
      obtain ⟨r6, hq7, hf⟩ := bd1_at hf
      refine r_st (As := [.int p1, .int (rVa r_2)]) (rest := []) C (kX3_fits l p1 (rVa r_2) r6 hq7) (cwS0 C (inr10 _ (List.mem_of_getElem? (i := 14) rfl)) mwX3_fits hdX3_fits ⟨Nat.le_of_ble_eq_true rfl, Nat.le_of_ble_eq_true rfl⟩) rfl hl.1 rfl (Nat.le_of_ble_eq_true rfl) ⟨Nat.zero_le _, Nat.zero_le _⟩ (dk_at dkX2_readNumber 16 rfl) ?_
      refine lv_if_ne (tgt := 42) C.1 C.2.1 (dk_at dkX2_readNumber 17 rfl) (by decide) (fun c8 => ?_) (fun c8 => ?_)
      · have hf := (if_neg c8).symm.trans hf
        refine lv_iconst (v := 1) C.1 C.2.1 (dk_at dkX2_readNumber 22 rfl) (by decide) ?_
        refine lv_goto (tgt := 47) C.1 C.2.1 (dk_at dkX2_readNumber 23 rfl) (by decide) ?_
        cases hf
        exact fin _ _ _ _ _ (dk_at dkX2_readNumber 25 rfl) rfl rfl w
      · have hf := (if_pos c8).symm.trans hf
        refine lv_aload_n C.1 C.2.1 (dk_at dkX2_readNumber 18 rfl) rfl (lv_at hl 0 rfl) ?_
        refine lv_iconst (v := 3) C.1 C.2.1 (dk_at dkX2_readNumber 19 rfl) (by decide) ?_
        obtain ⟨r9, r_10, hq11, hf⟩ := bd2_at hf
        refine r_rwi (As := [.int 3]) (rest := []) (wr := []) (ws' := wR g a_r a_dr r_10) C (kX2_flawed l g _ a_r a_dr r_2 3 r9 r_10 hq11) (cwV0 C (inr7 _ (List.mem_of_getElem? (i := 8) rfl)) mwX2_flawed hdX2_flawed ⟨Nat.le_of_ble_eq_true rfl, Nat.le_of_ble_eq_true rfl⟩) hK w hA [0, 1] [] [0, 1] (by decide) rfl rfl (by decide) (by decide) rfl (by decide) rfl rfl rfl hl.1 rfl (Nat.le_of_ble_eq_true rfl) ⟨Nat.zero_le _, Nat.zero_le _⟩ (dk_at dkX2_readNumber 20 rfl) (fun H locs w => ?_)
        refine lv_if_eq (tgt := 46) C.1 C.2.1 (dk_at dkX2_readNumber 21 rfl) (by decide) (fun c12 => ?_) (fun c12 => ?_)
        · have hf := (if_pos c12).symm.trans hf
          refine lv_iconst (v := 0) C.1 C.2.1 (dk_at dkX2_readNumber 24 rfl) (by decide) ?_
          cases hf
          exact fin _ _ _ _ _ (dk_at dkX2_readNumber 25 rfl) rfl rfl w
        · have hf := (if_neg c12).symm.trans hf
          refine lv_iconst (v := 1) C.1 C.2.1 (dk_at dkX2_readNumber 22 rfl) (by decide) ?_
          refine lv_goto (tgt := 47) C.1 C.2.1 (dk_at dkX2_readNumber 23 rfl) (by decide) ?_
          cases hf
          exact fin _ _ _ _ _ (dk_at dkX2_readNumber 25 rfl) rfl rfl w
    · have hf := (if_neg c5).symm.trans hf
      refine lv_aload_n C.1 C.2.1 (dk_at dkX2_readNumber 9 rfl) rfl (lv_at hl 0 rfl) ?_
      refine lv_iconst (v := 2) C.1 C.2.1 (dk_at dkX2_readNumber 10 rfl) (by decide) ?_
      obtain ⟨r13, r_14, hq15, hf⟩ := bd2_at hf
      refine r_rwi (As := [.int 2]) (rest := []) (wr := []) (ws' := wR g a_r a_dr r_14) C (kX2_flawed l g _ a_r a_dr r_2 2 r13 r_14 hq15) (cwV0 C (inr7 _ (List.mem_of_getElem? (i := 8) rfl)) mwX2_flawed hdX2_flawed ⟨Nat.le_of_ble_eq_true rfl, Nat.le_of_ble_eq_true rfl⟩) hK w hA [0, 1] [] [0, 1] (by decide) rfl rfl (by decide) (by decide) rfl (by decide) rfl rfl rfl hl.1 rfl (Nat.le_of_ble_eq_true rfl) ⟨Nat.zero_le _, Nat.zero_le _⟩ (dk_at dkX2_readNumber 11 rfl) (fun H locs w => ?_)
      obtain ⟨h16, hf⟩ := gb_at hf
      cases hf
      exact fin _ _ _ _ _ (dk_at dkX2_readNumber 12 rfl) h16 rfl w
  · have hf := (if_pos c4).symm.trans hf
    refine lv_iconst (v := 0) C.1 C.2.1 (dk_at dkX2_readNumber 3 rfl) (by decide) ?_
    cases hf
    exact fin _ _ _ _ _ (dk_at dkX2_readNumber 4 rfl) rfl rfl w
-- X2.readStop
abbrev tbX2_readStop : List (Nat × Instr × Nat) := [(0, .aload_n 0, 1), (1, .invokevirtual 38, 3), (4, .ifCond .eq 23, 3), (7, .aload_n 0, 1), (8, .getfield 42, 3), (11, .iconst 3, 1), (12, .if_icmp .eq 11, 3), (15, .aload_n 0, 1), (16, .iconst 2, 1), (17, .invokevirtual 68, 3), (20, .ifCond .eq 7, 3), (23, .iconst 1, 1), (24, .goto 4, 3), (27, .iconst 0, 1), (28, .ireturn, 1)]
theorem dkX2_readStop : dk cX2_readStop tbX2_readStop := dk_of (by decide +kernel)
abbrev cdX2_readStop : Cond := Cond.code yX2_readStop cX2_readStop 1 (some .boolean)
abbrev rmX2_readStop : Room := { frames := 2, cells := 0, slots := 0, locals := 42 }
theorem mwX2_readStop : Cond.instanceMethod yX2_readStop ∈ wsL_law ∧ Cond.selects RX2 yX2_readStop yX2_readStop ∈ wsL_law ∧ Cond.initialized RX2 ∈ wsL_law ∧ cdX2_readStop ∈ wsL_law := ⟨inr10 _ (List.mem_of_getElem? (i := 22) rfl), inr10 _ (List.mem_of_getElem? (i := 23) rfl), inr1 _ (List.mem_of_getElem? (i := 14) rfl), inr11 _ (List.mem_of_getElem? (i := 0) rfl)⟩
theorem hdX2_readStop : yX2_readStop.cls = RX2 ∧ yX2_readStop.cls ≠ "java/lang/invoke/MethodHandle" ∧ yX2_readStop.cls ≠ "java/lang/invoke/VarHandle" ∧ (parseMethodDescriptor yX2_readStop.desc).map (fun d => d.parameters.length) = some 0 := by decide +kernel
set_option maxHeartbeats 4000000 in
set_option maxRecDepth 100000 in
theorem kX2_readStop (l : Launch) (g : Gx) (sz : Nat) (a_r a_dr : Nat → Nat) (r : RT) (res : Int32) (r_o : RT) (hf : fX2_readStop r = some (res, r_o)) : Met l yX2_readStop (cdX2_readStop :: wsL_law) rmX2_readStop (va_Pc [.ref (a_r 0)] (RWp g sz (wR g a_r a_dr r))) (va_Qi (fun x (_ : Unit) => x = res) (fun _ => RWq g (va_A (wR g a_r a_dr r) sz) (wR g a_r a_dr r_o)) (va_A (wR g a_r a_dr r) sz)) 0 0 (va_A (wR g a_r a_dr r) sz) := by
  refine Met_rwz (cc := cX2_readStop) (maxL := 1) (by decide) rfl (Nat.le_of_ble_eq_true rfl) ?_
  intro P E Z Mi AR BE ME CO A Q C hK hA fin w ls hl
  have hl : lv_has ls 1 [(0, .ref (a_r 0))] := hl
  unfold fX2_readStop at hf
  refine lv_aload_n C.1 C.2.1 (dk_at dkX2_readStop 0 rfl) rfl (lv_at hl 0 rfl) ?_
  obtain ⟨r1, r_2, hq3, hf⟩ := bd2_at hf
  refine r_rwi (As := []) (rest := []) (wr := []) (ws' := wR g a_r a_dr r_2) C (kX2_next l g _ a_r a_dr r r1 r_2 hq3) (cwV0 C (inr7 _ (List.mem_of_getElem? (i := 1) rfl)) mwX2_next hdX2_next ⟨Nat.le_of_ble_eq_true rfl, Nat.le_of_ble_eq_true rfl⟩) hK w hA [0, 1] [] [0, 1] (by decide) rfl rfl (by decide) (by decide) rfl (by decide) rfl rfl rfl hl.1 rfl (Nat.le_of_ble_eq_true rfl) ⟨Nat.zero_le _, Nat.zero_le _⟩ (dk_at dkX2_readStop 1 rfl) (fun H locs w => ?_)
  refine lv_if_eq (tgt := 27) C.1 C.2.1 (dk_at dkX2_readStop 2 rfl) (by decide) (fun c4 => ?_) (fun c4 => ?_)
  · have hf := (if_pos c4).symm.trans hf
    refine lv_iconst (v := 0) C.1 C.2.1 (dk_at dkX2_readStop 13 rfl) (by decide) ?_
    cases hf
    exact fin _ _ _ _ _ (dk_at dkX2_readStop 14 rfl) rfl rfl w
  · have hf := (if_neg c4).symm.trans hf
    refine lv_aload_n C.1 C.2.1 (dk_at dkX2_readStop 3 rfl) rfl (lv_at hl 0 rfl) ?_
    refine r_get (v := .int (rTo r_2)) C hK w.1 (fun w h => List.mem_cons_of_mem _ (inlX2 w h)) 0 rfl rfl 6 (by decide) (List.mem_cons_of_mem _ (inr6 _ (List.mem_of_getElem? (i := 23) rfl))) rfl (dk_at dkX2_readStop 4 rfl) ?_
    refine lv_iconst (v := 3) C.1 C.2.1 (dk_at dkX2_readStop 5 rfl) (by decide) ?_
    refine lv_icmp_eq (tgt := 23) C.1 C.2.1 (dk_at dkX2_readStop 6 rfl) (by decide) (fun c5 => ?_) (fun c5 => ?_)
    · have hf := (if_pos c5).symm.trans hf
      refine lv_iconst (v := 1) C.1 C.2.1 (dk_at dkX2_readStop 11 rfl) (by decide) ?_
      refine lv_goto (tgt := 28) C.1 C.2.1 (dk_at dkX2_readStop 12 rfl) (by decide) ?_
      cases hf
      exact fin _ _ _ _ _ (dk_at dkX2_readStop 14 rfl) rfl rfl w
    · have hf := (if_neg c5).symm.trans hf
      refine lv_aload_n C.1 C.2.1 (dk_at dkX2_readStop 7 rfl) rfl (lv_at hl 0 rfl) ?_
      refine lv_iconst (v := 2) C.1 C.2.1 (dk_at dkX2_readStop 8 rfl) (by decide) ?_
      obtain ⟨r6, r_7, hq8, hf⟩ := bd2_at hf
      refine r_rwi (As := [.int 2]) (rest := []) (wr := []) (ws' := wR g a_r a_dr r_7) C (kX2_flawed l g _ a_r a_dr r_2 2 r6 r_7 hq8) (cwV0 C (inr7 _ (List.mem_of_getElem? (i := 8) rfl)) mwX2_flawed hdX2_flawed ⟨Nat.le_of_ble_eq_true rfl, Nat.le_of_ble_eq_true rfl⟩) hK w hA [0, 1] [] [0, 1] (by decide) rfl rfl (by decide) (by decide) rfl (by decide) rfl rfl rfl hl.1 rfl (Nat.le_of_ble_eq_true rfl) ⟨Nat.zero_le _, Nat.zero_le _⟩ (dk_at dkX2_readStop 9 rfl) (fun H locs w => ?_)
      refine lv_if_eq (tgt := 27) C.1 C.2.1 (dk_at dkX2_readStop 10 rfl) (by decide) (fun c9 => ?_) (fun c9 => ?_)
      · have hf := (if_pos c9).symm.trans hf
        refine lv_iconst (v := 0) C.1 C.2.1 (dk_at dkX2_readStop 13 rfl) (by decide) ?_
        cases hf
        exact fin _ _ _ _ _ (dk_at dkX2_readStop 14 rfl) rfl rfl w
      · have hf := (if_neg c9).symm.trans hf
        refine lv_iconst (v := 1) C.1 C.2.1 (dk_at dkX2_readStop 11 rfl) (by decide) ?_
        refine lv_goto (tgt := 28) C.1 C.2.1 (dk_at dkX2_readStop 12 rfl) (by decide) ?_
        cases hf
        exact fin _ _ _ _ _ (dk_at dkX2_readStop 14 rfl) rfl rfl w
-- X2.readSaying
abbrev tbX2_readSaying : List (Nat × Instr × Nat) := [(0, .aload_n 0, 1), (1, .getfield 18, 3), (4, .getfield 71, 3), (7, .istore_n 2, 1), (8, .iload_n 2, 1), (9, .iconst 5, 1), (10, .if_icmp .lt 9, 3), (13, .aload_n 0, 1), (14, .iconst 5, 1), (15, .invokevirtual 68, 3), (18, .ireturn, 1), (19, .aload_n 0, 1), (20, .getfield 18, 3), (23, .getfield 74, 3), (26, .iload_n 2, 1), (27, .aaload, 1), (28, .iconst 0, 1), (29, .iload_n 1, 1), (30, .iastore, 1), (31, .iconst 1, 1), (32, .istore_n 3, 1), (33, .iload_n 3, 1), (34, .iconst 4, 1), (35, .if_icmp .gt 34, 3), (38, .aload_n 0, 1), (39, .iload_n 3, 1), (40, .invokevirtual 78, 3), (43, .ifCond .ne 5, 3), (46, .iconst 0, 1), (47, .ireturn, 1), (48, .aload_n 0, 1), (49, .getfield 18, 3), (52, .getfield 74, 3), (55, .iload_n 2, 1), (56, .aaload, 1), (57, .iload_n 3, 1), (58, .aload_n 0, 1), (59, .getfield 81, 3), (62, .iastore, 1), (63, .iinc 3 1, 3), (66, .goto (-33), 3), (69, .aload_n 0, 1), (70, .getfield 18, 3), (73, .dup, 1), (74, .getfield 71, 3), (77, .iconst 1, 1), (78, .iadd, 1), (79, .putfield 71, 3), (82, .iconst 1, 1), (83, .ireturn, 1)]
theorem dkX2_readSaying : dk cX2_readSaying tbX2_readSaying := dk_of (by decide +kernel)
abbrev cdX2_readSaying : Cond := Cond.code yX2_readSaying cX2_readSaying 4 (some .boolean)
abbrev rmX2_readSaying : Room := { frames := 3, cells := 0, slots := 0, locals := 63 }
theorem mwX2_readSaying : Cond.instanceMethod yX2_readSaying ∈ wsL_law ∧ Cond.selects RX2 yX2_readSaying yX2_readSaying ∈ wsL_law ∧ Cond.initialized RX2 ∈ wsL_law ∧ cdX2_readSaying ∈ wsL_law := ⟨inr10 _ (List.mem_of_getElem? (i := 5) rfl), inr10 _ (List.mem_of_getElem? (i := 6) rfl), inr1 _ (List.mem_of_getElem? (i := 14) rfl), inr10 _ (List.mem_of_getElem? (i := 7) rfl)⟩
theorem hdX2_readSaying : yX2_readSaying.cls = RX2 ∧ yX2_readSaying.cls ≠ "java/lang/invoke/MethodHandle" ∧ yX2_readSaying.cls ≠ "java/lang/invoke/VarHandle" ∧ (parseMethodDescriptor yX2_readSaying.desc).map (fun d => d.parameters.length) = some 1 := by decide +kernel
set_option maxHeartbeats 4000000 in
set_option maxRecDepth 100000 in
theorem kX2_readSaying (l : Launch) (g : Gx) (sz : Nat) (a_r a_dr : Nat → Nat) (r : RT) (dr : CT) (p1 : Int32) (res : Int32) (r_o : RT) (dr_o : CT) (hf : fX2_readSaying p1 r dr = some (res, r_o, dr_o)) : Met l yX2_readSaying (cdX2_readSaying :: wsL_law) rmX2_readSaying (va_Pc [.ref (a_r 0), .int p1] (RWp g sz (wR g a_r a_dr r ++ wC g a_dr dr))) (va_Qi (fun x (_ : Unit) => x = res) (fun _ => RWq g (va_A (wR g a_r a_dr r ++ wC g a_dr dr) sz) (wR g a_r a_dr r_o ++ wC g a_dr dr_o)) (va_A (wR g a_r a_dr r ++ wC g a_dr dr) sz)) 0 0 (va_A (wR g a_r a_dr r ++ wC g a_dr dr) sz) := by
  refine Met_rwz (cc := cX2_readSaying) (maxL := 4) (by decide) rfl (Nat.le_of_ble_eq_true rfl) ?_
  intro P E Z Mi AR BE ME CO A Q C hK hA fin w ls hl
  have hl : lv_has ls 4 [(0, .ref (a_r 0)), (1, .int p1)] := hl
  unfold fX2_readSaying at hf
  refine lv_aload_n C.1 C.2.1 (dk_at dkX2_readSaying 0 rfl) rfl (lv_at hl 0 rfl) ?_
  refine r_get (v := .ref (a_dr 0)) C hK w.1 (fun w h => List.mem_cons_of_mem _ (inlX2 w h)) 0 rfl rfl 2 (by decide) (List.mem_cons_of_mem _ (inr2 _ (List.mem_of_getElem? (i := 16) rfl))) rfl (dk_at dkX2_readSaying 1 rfl) ?_
  refine r_get (v := .int (cSa dr)) C hK w.1 (fun w h => List.mem_cons_of_mem _ (inlX0 w h)) 2 rfl rfl 3 (by decide) (List.mem_cons_of_mem _ (inr10 _ (List.mem_of_getElem? (i := 8) rfl))) rfl (dk_at dkX2_readSaying 2 rfl) ?_
  refine lv_istore_n (lv' := [(2, .int (cSa dr)), (0, .ref (a_r 0)), (1, .int p1)]) C.1 C.2.1 (dk_at dkX2_readSaying 3 rfl) rfl hl (by decide) rfl (fun ls hl => ?_)
  refine lv_iload_n C.1 C.2.1 (dk_at dkX2_readSaying 4 rfl) rfl (lv_at hl 0 rfl) ?_
  refine lv_iconst (v := 5) C.1 C.2.1 (dk_at dkX2_readSaying 5 rfl) (by decide) ?_
  refine lv_icmp_lt (tgt := 19) C.1 C.2.1 (dk_at dkX2_readSaying 6 rfl) (by decide) (fun c1 => ?_) (fun c1 => ?_)
  · have hf := (if_pos c1).symm.trans hf
    refine lv_aload_n C.1 C.2.1 (dk_at dkX2_readSaying 11 rfl) rfl (lv_at hl 1 rfl) ?_
    refine r_get (v := .ref (a_dr 0)) C hK w.1 (fun w h => List.mem_cons_of_mem _ (inlX2 w h)) 0 rfl rfl 2 (by decide) (List.mem_cons_of_mem _ (inr2 _ (List.mem_of_getElem? (i := 16) rfl))) rfl (dk_at dkX2_readSaying 12 rfl) ?_
    refine r_get (v := .ref (a_dr 2)) C hK w.1 (fun w h => List.mem_cons_of_mem _ (inlX0 w h)) 2 rfl rfl 2 (by decide) (List.mem_cons_of_mem _ (inr10 _ (List.mem_of_getElem? (i := 9) rfl))) rfl (dk_at dkX2_readSaying 13 rfl) ?_
    refine lv_iload_n C.1 C.2.1 (dk_at dkX2_readSaying 14 rfl) rfl (lv_at hl 0 rfl) ?_
    obtain ⟨h2, hf⟩ := gd_at hf
    refine r_aldr (b := a_dr (3 + ((cSa dr).toNatClampNeg))) C hK w.1 4 rfl h2 rfl (dk_at dkX2_readSaying 15 rfl) ?_
    have h3 := in_lt h2
    refine lv_iconst (v := 0) C.1 C.2.1 (dk_at dkX2_readSaying 16 rfl) (by decide) ?_
    refine lv_iload_n C.1 C.2.1 (dk_at dkX2_readSaying 17 rfl) rfl (lv_at hl 2 rfl) ?_
    refine r_iast (k := 0) (a := a_dr (3 + ((cSa dr).toNatClampNeg))) (n := 5) (f := cTo dr ((cSa dr).toNatClampNeg)) C hK w (2 + (3 + ((cSa dr).toNatClampNeg))) (by rcases lt5 h3 with h5 | h5 | h5 | h5 | h5 <;> rw [h5] <;> rfl) (in_c (by decide)) (by decide) (dk_at dkX2_readSaying 18 rfl) (fun H locs w => ?_)
    obtain ⟨dr_4, edr_4⟩ : ∃ z : CT, z = cTo' dr (va_up (cTo dr) ((cSa dr).toNatClampNeg) (upd (cTo dr ((cSa dr).toNatClampNeg)) 0 p1)) := ⟨_, rfl⟩
    have hf := nm_at edr_4 hf
    have w : Wd g A Z.heap (wR g a_r a_dr r ++ wC g a_dr dr_4) H locs := by rw [edr_4]; rcases lt5 h3 with h5 | h5 | h5 | h5 | h5 <;> (rw [h5] at w; rw [h5]; exact w)
    refine lv_iconst (v := 1) C.1 C.2.1 (dk_at dkX2_readSaying 19 rfl) (by decide) ?_
    refine lv_istore_n (lv' := [(3, .int 1), (2, .int (cSa dr)), (0, .ref (a_r 0)), (1, .int p1)]) C.1 C.2.1 (dk_at dkX2_readSaying 20 rfl) rfl hl (by decide) rfl (fun ls hl => ?_)
    have L8 : ∀ (K : Int32 → RT → CT → Option (Int32 × RT × CT)), (∀ (v5 : Int32) (r_6 : RT) (dr_7 : CT) (H : Heap) (locs : List Loc) (ls : Array Slot), Wd g A Z.heap (wR g a_r a_dr r_6 ++ wC g a_dr dr_7) H locs → lv_has ls 4 [(0, .ref (a_r 0))] → K v5 r_6 dr_7 = some (res, r_o, dr_o) → W P l E rmX2_readSaying Z Mi AR BE ME CO H locs 0 0 Q (F0 Mi 69 ls [])) → ∀ (n : Nat), ∀ (v5 : Int32) (r_6 : RT) (dr_7 : CT) (H : Heap) (locs : List Loc) (ls : Array Slot), Wd g A Z.heap (wR g a_r a_dr r_6 ++ wC g a_dr dr_7) H locs → lv_has ls 4 [(3, .int v5), (2, .int (cSa dr)), (0, .ref (a_r 0))] → fX2_readSaying_L33 dr K n v5 r_6 dr_7 = some (res, r_o, dr_o) → W P l E rmX2_readSaying Z Mi AR BE ME CO H locs 0 0 Q (F0 Mi 33 ls []) := by
      intro K hKe n
      induction n with
      | zero => intro v5 r_6 dr_7 H locs ls w hl hf; cases hf
      | succ n ih =>
        intro v5 r_6 dr_7 H locs ls w hl hf
        rw [fX2_readSaying_L33] at hf
        refine lv_iload_n C.1 C.2.1 (dk_at dkX2_readSaying 21 rfl) rfl (lv_at hl 0 rfl) ?_
        refine lv_iconst (v := 4) C.1 C.2.1 (dk_at dkX2_readSaying 22 rfl) (by decide) ?_
        refine lv_icmp_gt (tgt := 69) C.1 C.2.1 (dk_at dkX2_readSaying 23 rfl) (by decide) (fun c9 => ?_) (fun c9 => ?_)
        · have hf := (if_pos c9).symm.trans hf
          exact hKe v5 r_6 dr_7 _ _ _ w (lv_sub hl [2] rfl) hf
        · have hf := (if_neg c9).symm.trans hf
          refine lv_aload_n C.1 C.2.1 (dk_at dkX2_readSaying 24 rfl) rfl (lv_at hl 2 rfl) ?_
          refine lv_iload_n C.1 C.2.1 (dk_at dkX2_readSaying 25 rfl) rfl (lv_at hl 0 rfl) ?_
          obtain ⟨r10, r_11, hq12, hf⟩ := bd2_at hf
          refine r_rwi (As := [.int v5]) (rest := []) (wr := wC g a_dr dr_7) (ws' := wR g a_r a_dr r_11 ++ wC g a_dr dr_7) C (kX2_readNumber l g _ a_r a_dr r_6 v5 r10 r_11 hq12) (cwV0 C (inr10 _ (List.mem_of_getElem? (i := 10) rfl)) mwX2_readNumber hdX2_readNumber ⟨Nat.le_of_ble_eq_true rfl, Nat.le_of_ble_eq_true rfl⟩) hK w hA [0, 1] [2, 3, 4, 5, 6, 7, 8, 9, 10, 11, 12] [11, 12, 0, 1, 2, 3, 4, 5, 6, 7, 8, 9, 10] (by decide) rfl rfl (by decide) (by decide) rfl (by decide) rfl rfl rfl hl.1 rfl (Nat.le_of_ble_eq_true rfl) ⟨Nat.zero_le _, Nat.zero_le _⟩ (dk_at dkX2_readSaying 26 rfl) (fun H locs w => ?_)
          refine lv_if_ne (tgt := 48) C.1 C.2.1 (dk_at dkX2_readSaying 27 rfl) (by decide) (fun c13 => ?_) (fun c13 => ?_)
          · have hf := (if_neg c13).symm.trans hf
            refine lv_aload_n C.1 C.2.1 (dk_at dkX2_readSaying 30 rfl) rfl (lv_at hl 2 rfl) ?_
            refine r_get (v := .ref (a_dr 0)) C hK w.1 (fun w h => List.mem_cons_of_mem _ (inlX2 w h)) 0 rfl rfl 2 (by decide) (List.mem_cons_of_mem _ (inr2 _ (List.mem_of_getElem? (i := 16) rfl))) rfl (dk_at dkX2_readSaying 31 rfl) ?_
            refine r_get (v := .ref (a_dr 2)) C hK w.1 (fun w h => List.mem_cons_of_mem _ (inlX0 w h)) 2 rfl rfl 2 (by decide) (List.mem_cons_of_mem _ (inr10 _ (List.mem_of_getElem? (i := 9) rfl))) rfl (dk_at dkX2_readSaying 32 rfl) ?_
            refine lv_iload_n C.1 C.2.1 (dk_at dkX2_readSaying 33 rfl) rfl (lv_at hl 1 rfl) ?_
            obtain ⟨h14, hf⟩ := gd_at hf
            refine r_aldr (b := a_dr (3 + ((cSa dr).toNatClampNeg))) C hK w.1 4 rfl h14 rfl (dk_at dkX2_readSaying 34 rfl) ?_
            have h15 := in_lt h14
            refine lv_iload_n C.1 C.2.1 (dk_at dkX2_readSaying 35 rfl) rfl (lv_at hl 0 rfl) ?_
            refine lv_aload_n C.1 C.2.1 (dk_at dkX2_readSaying 36 rfl) rfl (lv_at hl 2 rfl) ?_
            refine r_get (v := .int (rVa r_11)) C hK w.1 (fun w h => List.mem_cons_of_mem _ (inlX2 w h)) 0 rfl rfl 8 (by decide) (List.mem_cons_of_mem _ (inr7 _ (List.mem_of_getElem? (i := 7) rfl))) rfl (dk_at dkX2_readSaying 37 rfl) ?_
            obtain ⟨h16, hf⟩ := gd_at hf
            refine r_iast (k := v5.toNatClampNeg) (a := a_dr (3 + ((cSa dr).toNatClampNeg))) (n := 5) (f := cTo dr_7 ((cSa dr).toNatClampNeg)) C hK w (2 + (3 + ((cSa dr).toNatClampNeg))) (by rcases lt5 h15 with h5 | h5 | h5 | h5 | h5 <;> rw [h5] <;> rfl) h16 rfl (dk_at dkX2_readSaying 38 rfl) (fun H locs w => ?_)
            obtain ⟨dr_17, edr_17⟩ : ∃ z : CT, z = cTo' dr_7 (va_up (cTo dr_7) ((cSa dr).toNatClampNeg) (upd (cTo dr_7 ((cSa dr).toNatClampNeg)) v5.toNatClampNeg (rVa r_11))) := ⟨_, rfl⟩
            have hf := nm_at edr_17 hf
            have w : Wd g A Z.heap (wR g a_r a_dr r_11 ++ wC g a_dr dr_17) H locs := by rw [edr_17]; rcases lt5 h15 with h5 | h5 | h5 | h5 | h5 <;> (rw [h5] at w; rw [h5]; exact w)
            obtain ⟨x18, ex18⟩ : ∃ z : Int32, z = v5 + 1 := ⟨_, rfl⟩
            have hf := nm_at ex18 hf
            refine lv_iinc (v := x18) (lv' := [(3, .int x18), (2, .int (cSa dr)), (0, .ref (a_r 0))]) C.1 C.2.1 (dk_at dkX2_readSaying 39 rfl) hl (k := 0) rfl (by rw [ex18]; rfl) (by decide) rfl (fun ls hl => ?_)
            refine lv_goto (tgt := 33) C.1 C.2.1 (dk_at dkX2_readSaying 40 rfl) (by decide) ?_
            exact ih x18 r_11 dr_17 _ _ _ w (lv_sub hl [0, 1, 2] rfl) hf
          · have hf := (if_pos c13).symm.trans hf
            refine lv_iconst (v := 0) C.1 C.2.1 (dk_at dkX2_readSaying 28 rfl) (by decide) ?_
            cases hf
            exact fin _ _ _ _ _ (dk_at dkX2_readSaying 29 rfl) rfl rfl w
    refine L8 _ ?_ 4096 1 r dr_4 _ _ _ w (lv_sub hl [0, 1, 2] rfl) hf
    clear hf
    intro v5 r_6 dr_7 H locs ls w hl hf
    refine lv_aload_n C.1 C.2.1 (dk_at dkX2_readSaying 41 rfl) rfl (lv_at hl 0 rfl) ?_
    refine r_get (v := .ref (a_dr 0)) C hK w.1 (fun w h => List.mem_cons_of_mem _ (inlX2 w h)) 0 rfl rfl 2 (by decide) (List.mem_cons_of_mem _ (inr2 _ (List.mem_of_getElem? (i := 16) rfl))) rfl (dk_at dkX2_readSaying 42 rfl) ?_
    refine lv_dup C.1 C.2.1 (dk_at dkX2_readSaying 43 rfl) rfl ?_
    refine r_get (v := .int (cSa dr_7)) C hK w.1 (fun w h => List.mem_cons_of_mem _ (inlX0 w h)) 2 rfl rfl 3 (by decide) (List.mem_cons_of_mem _ (inr10 _ (List.mem_of_getElem? (i := 8) rfl))) rfl (dk_at dkX2_readSaying 44 rfl) ?_
    refine lv_iconst (v := 1) C.1 C.2.1 (dk_at dkX2_readSaying 45 rfl) (by decide) ?_
    refine lv_iadd C.1 C.2.1 (dk_at dkX2_readSaying 46 rfl) ?_
    refine lv_topi (fun x19 ex19 => ?_)
    have hf := nm_at ex19 hf
    refine r_put (v := .int x19) C hK w (fun w h => List.mem_cons_of_mem _ (inlX0 w h)) tyX0 tyX0_ok nmX0 2 rfl rfl 3 (by decide) (List.mem_cons_of_mem _ (inr10 _ (List.mem_of_getElem? (i := 8) rfl))) rfl rfl rfl (Nat.le_of_ble_eq_true rfl) (dk_at dkX2_readSaying 47 rfl) (fun H locs w => ?_)
    obtain ⟨dr_20, edr_20⟩ : ∃ z : CT, z = cSa' dr_7 x19 := ⟨_, rfl⟩
    have hf := nm_at edr_20 hf
    have w : Wd g A Z.heap (wR g a_r a_dr r_6 ++ wC g a_dr dr_20) H locs := by rw [edr_20]; exact w
    refine lv_iconst (v := 1) C.1 C.2.1 (dk_at dkX2_readSaying 48 rfl) (by decide) ?_
    cases hf
    exact fin _ _ _ _ _ (dk_at dkX2_readSaying 49 rfl) rfl rfl w
  · have hf := (if_neg c1).symm.trans hf
    refine lv_aload_n C.1 C.2.1 (dk_at dkX2_readSaying 7 rfl) rfl (lv_at hl 1 rfl) ?_
    refine lv_iconst (v := 5) C.1 C.2.1 (dk_at dkX2_readSaying 8 rfl) (by decide) ?_
    obtain ⟨r21, r_22, hq23, hf⟩ := bd2_at hf
    refine r_rwi (As := [.int 5]) (rest := []) (wr := wC g a_dr dr) (ws' := wR g a_r a_dr r_22 ++ wC g a_dr dr) C (kX2_flawed l g _ a_r a_dr r 5 r21 r_22 hq23) (cwV0 C (inr7 _ (List.mem_of_getElem? (i := 8) rfl)) mwX2_flawed hdX2_flawed ⟨Nat.le_of_ble_eq_true rfl, Nat.le_of_ble_eq_true rfl⟩) hK w hA [0, 1] [2, 3, 4, 5, 6, 7, 8, 9, 10, 11, 12] [11, 12, 0, 1, 2, 3, 4, 5, 6, 7, 8, 9, 10] (by decide) rfl rfl (by decide) (by decide) rfl (by decide) rfl rfl rfl hl.1 rfl (Nat.le_of_ble_eq_true rfl) ⟨Nat.zero_le _, Nat.zero_le _⟩ (dk_at dkX2_readSaying 9 rfl) (fun H locs w => ?_)
    obtain ⟨h24, hf⟩ := gb_at hf
    cases hf
    exact fin _ _ _ _ _ (dk_at dkX2_readSaying 10 rfl) h24 rfl w
-- X2.readWall
abbrev tbX2_readWall : List (Nat × Instr × Nat) := [(0, .aload_n 0, 1), (1, .getfield 18, 3), (4, .getfield 84, 3), (7, .invokestatic 88, 3), (10, .bipush 12, 2), (12, .if_icmp .lt 9, 3), (15, .aload_n 0, 1), (16, .iconst 5, 1), (17, .invokevirtual 68, 3), (20, .ireturn, 1), (21, .aload_n 0, 1), (22, .iconst 1, 1), (23, .invokevirtual 78, 3), (26, .ifCond .ne 5, 3), (29, .iconst 0, 1), (30, .ireturn, 1), (31, .aload_n 0, 1), (32, .getfield 81, 3), (35, .invokestatic 94, 3), (38, .istore_n 1, 1), (39, .aload_n 0, 1), (40, .getfield 18, 3), (43, .getfield 84, 3), (46, .iload_n 1, 1), (47, .invokestatic 100, 3), (50, .ifCond .eq 9, 3), (53, .aload_n 0, 1), (54, .iconst 4, 1), (55, .invokevirtual 68, 3), (58, .ireturn, 1), (59, .aload_n 0, 1), (60, .getfield 18, 3), (63, .dup, 1), (64, .getfield 84, 3), (67, .lconst 1, 1), (68, .iload_n 1, 1), (69, .lshl, 1), (70, .lor, 1), (71, .putfield 84, 3), (74, .iconst 1, 1), (75, .ireturn, 1)]
theorem dkX2_readWall : dk cX2_readWall tbX2_readWall := dk_of (by decide +kernel)
abbrev cdX2_readWall : Cond := Cond.code yX2_readWall cX2_readWall 2 (some .boolean)
abbrev rmX2_readWall : Room := { frames := 3, cells := 0, slots := 0, locals := 63 }
theorem mwX2_readWall : Cond.instanceMethod yX2_readWall ∈ wsL_law ∧ Cond.selects RX2 yX2_readWall yX2_readWall ∈ wsL_law ∧ Cond.initialized RX2 ∈ wsL_law ∧ cdX2_readWall ∈ wsL_law := ⟨inr11 _ (List.mem_of_getElem? (i := 2) rfl), inr11 _ (List.mem_of_getElem? (i := 3) rfl), inr1 _ (List.mem_of_getElem? (i := 14) rfl), inr11 _ (List.mem_of_getElem? (i := 4) rfl)⟩
theorem hdX2_readWall : yX2_readWall.cls = RX2 ∧ yX2_readWall.cls ≠ "java/lang/invoke/MethodHandle" ∧ yX2_readWall.cls ≠ "java/lang/invoke/VarHandle" ∧ (parseMethodDescriptor yX2_readWall.desc).map (fun d => d.parameters.length) = some 0 := by decide +kernel
set_option maxHeartbeats 4000000 in
set_option maxRecDepth 100000 in
theorem kX2_readWall (l : Launch) (g : Gx) (sz : Nat) (a_r a_dr : Nat → Nat) (r : RT) (dr : CT) (res : Int32) (r_o : RT) (dr_o : CT) (hf : fX2_readWall r dr = some (res, r_o, dr_o)) : Met l yX2_readWall (cdX2_readWall :: wsL_law) rmX2_readWall (va_Pc [.ref (a_r 0)] (RWp g sz (wR g a_r a_dr r ++ wC g a_dr dr))) (va_Qi (fun x (_ : Unit) => x = res) (fun _ => RWq g (va_A (wR g a_r a_dr r ++ wC g a_dr dr) sz) (wR g a_r a_dr r_o ++ wC g a_dr dr_o)) (va_A (wR g a_r a_dr r ++ wC g a_dr dr) sz)) 0 0 (va_A (wR g a_r a_dr r ++ wC g a_dr dr) sz) := by
  refine Met_rwz (cc := cX2_readWall) (maxL := 2) (by decide) rfl (Nat.le_of_ble_eq_true rfl) ?_
  intro P E Z Mi AR BE ME CO A Q C hK hA fin w ls hl
  have hl : lv_has ls 2 [(0, .ref (a_r 0))] := hl
  unfold fX2_readWall at hf
  refine lv_aload_n C.1 C.2.1 (dk_at dkX2_readWall 0 rfl) rfl (lv_at hl 0 rfl) ?_
  refine r_get (v := .ref (a_dr 0)) C hK w.1 (fun w h => List.mem_cons_of_mem _ (inlX2 w h)) 0 rfl rfl 2 (by decide) (List.mem_cons_of_mem _ (inr2 _ (List.mem_of_getElem? (i := 16) rfl))) rfl (dk_at dkX2_readWall 1 rfl) ?_
  refine r_get (v := .long (cW dr)) C hK w.1 (fun w h => List.mem_cons_of_mem _ (inlX0 w h)) 2 rfl rfl 0 (by decide) (List.mem_cons_of_mem _ (inr11 _ (List.mem_of_getElem? (i := 5) rfl))) rfl (dk_at dkX2_readWall 2 rfl) ?_
  obtain ⟨r1, hq2, hf⟩ := bd1_at hf
  refine r_st (As := [.long (cW dr)]) (rest := []) C (kJ13_bitCount_95d88 l (cW dr) r1 hq2) (cwS0 C (inr11 _ (List.mem_of_getElem? (i := 6) rfl)) mwJ13_bitCount_95d88 hdJ13_bitCount_95d88 ⟨Nat.le_of_ble_eq_true rfl, Nat.le_of_ble_eq_true rfl⟩) rfl hl.1 rfl (Nat.le_of_ble_eq_true rfl) ⟨Nat.zero_le _, Nat.zero_le _⟩ (dk_at dkX2_readWall 3 rfl) ?_
  refine lv_bipush (v := 12) C.1 C.2.1 (dk_at dkX2_readWall 4 rfl) (by decide) ?_
  refine lv_icmp_lt (tgt := 21) C.1 C.2.1 (dk_at dkX2_readWall 5 rfl) (by decide) (fun c3 => ?_) (fun c3 => ?_)
  · have hf := (if_pos c3).symm.trans hf
    refine lv_aload_n C.1 C.2.1 (dk_at dkX2_readWall 10 rfl) rfl (lv_at hl 0 rfl) ?_
    refine lv_iconst (v := 1) C.1 C.2.1 (dk_at dkX2_readWall 11 rfl) (by decide) ?_
    obtain ⟨r4, r_5, hq6, hf⟩ := bd2_at hf
    refine r_rwi (As := [.int 1]) (rest := []) (wr := wC g a_dr dr) (ws' := wR g a_r a_dr r_5 ++ wC g a_dr dr) C (kX2_readNumber l g _ a_r a_dr r 1 r4 r_5 hq6) (cwV0 C (inr10 _ (List.mem_of_getElem? (i := 10) rfl)) mwX2_readNumber hdX2_readNumber ⟨Nat.le_of_ble_eq_true rfl, Nat.le_of_ble_eq_true rfl⟩) hK w hA [0, 1] [2, 3, 4, 5, 6, 7, 8, 9, 10, 11, 12] [11, 12, 0, 1, 2, 3, 4, 5, 6, 7, 8, 9, 10] (by decide) rfl rfl (by decide) (by decide) rfl (by decide) rfl rfl rfl hl.1 rfl (Nat.le_of_ble_eq_true rfl) ⟨Nat.zero_le _, Nat.zero_le _⟩ (dk_at dkX2_readWall 12 rfl) (fun H locs w => ?_)
    refine lv_if_ne (tgt := 31) C.1 C.2.1 (dk_at dkX2_readWall 13 rfl) (by decide) (fun c7 => ?_) (fun c7 => ?_)
    · have hf := (if_neg c7).symm.trans hf
      refine lv_aload_n C.1 C.2.1 (dk_at dkX2_readWall 16 rfl) rfl (lv_at hl 0 rfl) ?_
      refine r_get (v := .int (rVa r_5)) C hK w.1 (fun w h => List.mem_cons_of_mem _ (inlX2 w h)) 0 rfl rfl 8 (by decide) (List.mem_cons_of_mem _ (inr7 _ (List.mem_of_getElem? (i := 7) rfl))) rfl (dk_at dkX2_readWall 17 rfl) ?_
      obtain ⟨r8, hq9, hf⟩ := bd1_at hf
      refine r_st (As := [.int (rVa r_5)]) (rest := []) C (kX3_placeOf l (rVa r_5) r8 hq9) (cwS0 C (inr11 _ (List.mem_of_getElem? (i := 13) rfl)) mwX3_placeOf hdX3_placeOf ⟨Nat.le_of_ble_eq_true rfl, Nat.le_of_ble_eq_true rfl⟩) rfl hl.1 rfl (Nat.le_of_ble_eq_true rfl) ⟨Nat.zero_le _, Nat.zero_le _⟩ (dk_at dkX2_readWall 18 rfl) ?_
      refine lv_istore_n (lv' := [(1, .int r8), (0, .ref (a_r 0))]) C.1 C.2.1 (dk_at dkX2_readWall 19 rfl) rfl hl (by decide) rfl (fun ls hl => ?_)
      refine lv_aload_n C.1 C.2.1 (dk_at dkX2_readWall 20 rfl) rfl (lv_at hl 1 rfl) ?_
      refine r_get (v := .ref (a_dr 0)) C hK w.1 (fun w h => List.mem_cons_of_mem _ (inlX2 w h)) 0 rfl rfl 2 (by decide) (List.mem_cons_of_mem _ (inr2 _ (List.mem_of_getElem? (i := 16) rfl))) rfl (dk_at dkX2_readWall 21 rfl) ?_
      refine r_get (v := .long (cW dr)) C hK w.1 (fun w h => List.mem_cons_of_mem _ (inlX0 w h)) 2 rfl rfl 0 (by decide) (List.mem_cons_of_mem _ (inr11 _ (List.mem_of_getElem? (i := 5) rfl))) rfl (dk_at dkX2_readWall 22 rfl) ?_
      refine lv_iload_n C.1 C.2.1 (dk_at dkX2_readWall 23 rfl) rfl (lv_at hl 0 rfl) ?_
      obtain ⟨r10, hq11, hf⟩ := bd1_at hf
      refine r_st (As := [.long (cW dr), .int r8]) (rest := []) C (kX3_has l (cW dr) r8 r10 hq11) (cwS0 C (inr11 _ (List.mem_of_getElem? (i := 16) rfl)) mwX3_has hdX3_has ⟨Nat.le_of_ble_eq_true rfl, Nat.le_of_ble_eq_true rfl⟩) rfl hl.1 rfl (Nat.le_of_ble_eq_true rfl) ⟨Nat.zero_le _, Nat.zero_le _⟩ (dk_at dkX2_readWall 24 rfl) ?_
      refine lv_if_eq (tgt := 59) C.1 C.2.1 (dk_at dkX2_readWall 25 rfl) (by decide) (fun c12 => ?_) (fun c12 => ?_)
      · have hf := (if_pos c12).symm.trans hf
        refine lv_aload_n C.1 C.2.1 (dk_at dkX2_readWall 30 rfl) rfl (lv_at hl 1 rfl) ?_
        refine r_get (v := .ref (a_dr 0)) C hK w.1 (fun w h => List.mem_cons_of_mem _ (inlX2 w h)) 0 rfl rfl 2 (by decide) (List.mem_cons_of_mem _ (inr2 _ (List.mem_of_getElem? (i := 16) rfl))) rfl (dk_at dkX2_readWall 31 rfl) ?_
        refine lv_dup C.1 C.2.1 (dk_at dkX2_readWall 32 rfl) rfl ?_
        refine r_get (v := .long (cW dr)) C hK w.1 (fun w h => List.mem_cons_of_mem _ (inlX0 w h)) 2 rfl rfl 0 (by decide) (List.mem_cons_of_mem _ (inr11 _ (List.mem_of_getElem? (i := 5) rfl))) rfl (dk_at dkX2_readWall 33 rfl) ?_
        refine lv_lconst (v := 1) C.1 C.2.1 (dk_at dkX2_readWall 34 rfl) (by decide) ?_
        refine lv_iload_n C.1 C.2.1 (dk_at dkX2_readWall 35 rfl) rfl (lv_at hl 0 rfl) ?_
        refine lv_lshl C.1 C.2.1 (dk_at dkX2_readWall 36 rfl) rfl ?_
        refine lv_lor C.1 C.2.1 (dk_at dkX2_readWall 37 rfl) ?_
        refine lv_topl (fun x13 ex13 => ?_)
        have hf := nm_at ex13 hf
        refine r_put (v := .long x13) C hK w (fun w h => List.mem_cons_of_mem _ (inlX0 w h)) tyX0 tyX0_ok nmX0 2 rfl rfl 0 (by decide) (List.mem_cons_of_mem _ (inr11 _ (List.mem_of_getElem? (i := 5) rfl))) rfl rfl rfl (Nat.le_of_ble_eq_true rfl) (dk_at dkX2_readWall 38 rfl) (fun H locs w => ?_)
        obtain ⟨dr_14, edr_14⟩ : ∃ z : CT, z = cW' dr x13 := ⟨_, rfl⟩
        have hf := nm_at edr_14 hf
        have w : Wd g A Z.heap (wR g a_r a_dr r_5 ++ wC g a_dr dr_14) H locs := by rw [edr_14]; exact w
        refine lv_iconst (v := 1) C.1 C.2.1 (dk_at dkX2_readWall 39 rfl) (by decide) ?_
        cases hf
        exact fin _ _ _ _ _ (dk_at dkX2_readWall 40 rfl) rfl rfl w
      · have hf := (if_neg c12).symm.trans hf
        refine lv_aload_n C.1 C.2.1 (dk_at dkX2_readWall 26 rfl) rfl (lv_at hl 1 rfl) ?_
        refine lv_iconst (v := 4) C.1 C.2.1 (dk_at dkX2_readWall 27 rfl) (by decide) ?_
        obtain ⟨r15, r_16, hq17, hf⟩ := bd2_at hf
        refine r_rwi (As := [.int 4]) (rest := []) (wr := wC g a_dr dr) (ws' := wR g a_r a_dr r_16 ++ wC g a_dr dr) C (kX2_flawed l g _ a_r a_dr r_5 4 r15 r_16 hq17) (cwV0 C (inr7 _ (List.mem_of_getElem? (i := 8) rfl)) mwX2_flawed hdX2_flawed ⟨Nat.le_of_ble_eq_true rfl, Nat.le_of_ble_eq_true rfl⟩) hK w hA [0, 1] [2, 3, 4, 5, 6, 7, 8, 9, 10, 11, 12] [11, 12, 0, 1, 2, 3, 4, 5, 6, 7, 8, 9, 10] (by decide) rfl rfl (by decide) (by decide) rfl (by decide) rfl rfl rfl hl.1 rfl (Nat.le_of_ble_eq_true rfl) ⟨Nat.zero_le _, Nat.zero_le _⟩ (dk_at dkX2_readWall 28 rfl) (fun H locs w => ?_)
        obtain ⟨h18, hf⟩ := gb_at hf
        cases hf
        exact fin _ _ _ _ _ (dk_at dkX2_readWall 29 rfl) h18 rfl w
    · have hf := (if_pos c7).symm.trans hf
      refine lv_iconst (v := 0) C.1 C.2.1 (dk_at dkX2_readWall 14 rfl) (by decide) ?_
      cases hf
      exact fin _ _ _ _ _ (dk_at dkX2_readWall 15 rfl) rfl rfl w
  · have hf := (if_neg c3).symm.trans hf
    refine lv_aload_n C.1 C.2.1 (dk_at dkX2_readWall 6 rfl) rfl (lv_at hl 0 rfl) ?_
    refine lv_iconst (v := 5) C.1 C.2.1 (dk_at dkX2_readWall 7 rfl) (by decide) ?_
    obtain ⟨r19, r_20, hq21, hf⟩ := bd2_at hf
    refine r_rwi (As := [.int 5]) (rest := []) (wr := wC g a_dr dr) (ws' := wR g a_r a_dr r_20 ++ wC g a_dr dr) C (kX2_flawed l g _ a_r a_dr r 5 r19 r_20 hq21) (cwV0 C (inr7 _ (List.mem_of_getElem? (i := 8) rfl)) mwX2_flawed hdX2_flawed ⟨Nat.le_of_ble_eq_true rfl, Nat.le_of_ble_eq_true rfl⟩) hK w hA [0, 1] [2, 3, 4, 5, 6, 7, 8, 9, 10, 11, 12] [11, 12, 0, 1, 2, 3, 4, 5, 6, 7, 8, 9, 10] (by decide) rfl rfl (by decide) (by decide) rfl (by decide) rfl rfl rfl hl.1 rfl (Nat.le_of_ble_eq_true rfl) ⟨Nat.zero_le _, Nat.zero_le _⟩ (dk_at dkX2_readWall 8 rfl) (fun H locs w => ?_)
    obtain ⟨h22, hf⟩ := gb_at hf
    cases hf
    exact fin _ _ _ _ _ (dk_at dkX2_readWall 9 rfl) h22 rfl w
-- X2.readWind
abbrev tbX2_readWind : List (Nat × Instr × Nat) := [(0, .aload_n 0, 1), (1, .iconst 4, 1), (2, .invokevirtual 78, 3), (5, .ifCond .ne 5, 3), (8, .iconst 0, 1), (9, .ireturn, 1), (10, .aload_n 0, 1), (11, .getfield 81, 3), (14, .istore_n 1, 1), (15, .aload_n 0, 1), (16, .getfield 32, 3), (19, .iload_n 1, 1), (20, .ishr, 1), (21, .iconst 1, 1), (22, .iand, 1), (23, .ifCond .eq 9, 3), (26, .aload_n 0, 1), (27, .iconst 4, 1), (28, .invokevirtual 68, 3), (31, .ireturn, 1), (32, .aload_n 0, 1), (33, .dup, 1), (34, .getfield 32, 3), (37, .iconst 1, 1), (38, .iload_n 1, 1), (39, .ishl, 1), (40, .ior, 1), (41, .putfield 32, 3), (44, .aload_n 0, 1), (45, .iconst 5, 1), (46, .invokevirtual 78, 3), (49, .ifCond .ne 5, 3), (52, .iconst 0, 1), (53, .ireturn, 1), (54, .aload_n 0, 1), (55, .getfield 18, 3), (58, .getfield 104, 3), (61, .iload_n 1, 1), (62, .aload_n 0, 1), (63, .getfield 81, 3), (66, .iastore, 1), (67, .iconst 1, 1), (68, .ireturn, 1)]
theorem dkX2_readWind : dk cX2_readWind tbX2_readWind := dk_of (by decide +kernel)
abbrev cdX2_readWind : Cond := Cond.code yX2_readWind cX2_readWind 2 (some .boolean)
abbrev rmX2_readWind : Room := { frames := 3, cells := 0, slots := 0, locals := 63 }
theorem mwX2_readWind : Cond.instanceMethod yX2_readWind ∈ wsL_law ∧ Cond.selects RX2 yX2_readWind yX2_readWind ∈ wsL_law ∧ Cond.initialized RX2 ∈ wsL_law ∧ cdX2_readWind ∈ wsL_law := ⟨inr11 _ (List.mem_of_getElem? (i := 20) rfl), inr11 _ (List.mem_of_getElem? (i := 21) rfl), inr1 _ (List.mem_of_getElem? (i := 14) rfl), inr11 _ (List.mem_of_getElem? (i := 22) rfl)⟩
theorem hdX2_readWind : yX2_readWind.cls = RX2 ∧ yX2_readWind.cls ≠ "java/lang/invoke/MethodHandle" ∧ yX2_readWind.cls ≠ "java/lang/invoke/VarHandle" ∧ (parseMethodDescriptor yX2_readWind.desc).map (fun d => d.parameters.length) = some 0 := by decide +kernel
set_option maxHeartbeats 4000000 in
set_option maxRecDepth 100000 in
theorem kX2_readWind (l : Launch) (g : Gx) (sz : Nat) (a_r a_dr : Nat → Nat) (r : RT) (dr : CT) (res : Int32) (r_o : RT) (dr_o : CT) (hf : fX2_readWind r dr = some (res, r_o, dr_o)) : Met l yX2_readWind (cdX2_readWind :: wsL_law) rmX2_readWind (va_Pc [.ref (a_r 0)] (RWp g sz (wR g a_r a_dr r ++ wC g a_dr dr))) (va_Qi (fun x (_ : Unit) => x = res) (fun _ => RWq g (va_A (wR g a_r a_dr r ++ wC g a_dr dr) sz) (wR g a_r a_dr r_o ++ wC g a_dr dr_o)) (va_A (wR g a_r a_dr r ++ wC g a_dr dr) sz)) 0 0 (va_A (wR g a_r a_dr r ++ wC g a_dr dr) sz) := by
  refine Met_rwz (cc := cX2_readWind) (maxL := 2) (by decide) rfl (Nat.le_of_ble_eq_true rfl) ?_
  intro P E Z Mi AR BE ME CO A Q C hK hA fin w ls hl
  have hl : lv_has ls 2 [(0, .ref (a_r 0))] := hl
  unfold fX2_readWind at hf
  refine lv_aload_n C.1 C.2.1 (dk_at dkX2_readWind 0 rfl) rfl (lv_at hl 0 rfl) ?_
  refine lv_iconst (v := 4) C.1 C.2.1 (dk_at dkX2_readWind 1 rfl) (by decide) ?_
  obtain ⟨r1, r_2, hq3, hf⟩ := bd2_at hf
  refine r_rwi (As := [.int 4]) (rest := []) (wr := wC g a_dr dr) (ws' := wR g a_r a_dr r_2 ++ wC g a_dr dr) C (kX2_readNumber l g _ a_r a_dr r 4 r1 r_2 hq3) (cwV0 C (inr10 _ (List.mem_of_getElem? (i := 10) rfl)) mwX2_readNumber hdX2_readNumber ⟨Nat.le_of_ble_eq_true rfl, Nat.le_of_ble_eq_true rfl⟩) hK w hA [0, 1] [2, 3, 4, 5, 6, 7, 8, 9, 10, 11, 12] [11, 12, 0, 1, 2, 3, 4, 5, 6, 7, 8, 9, 10] (by decide) rfl rfl (by decide) (by decide) rfl (by decide) rfl rfl rfl hl.1 rfl (Nat.le_of_ble_eq_true rfl) ⟨Nat.zero_le _, Nat.zero_le _⟩ (dk_at dkX2_readWind 2 rfl) (fun H locs w => ?_)
  refine lv_if_ne (tgt := 10) C.1 C.2.1 (dk_at dkX2_readWind 3 rfl) (by decide) (fun c4 => ?_) (fun c4 => ?_)
  · have hf := (if_neg c4).symm.trans hf
    refine lv_aload_n C.1 C.2.1 (dk_at dkX2_readWind 6 rfl) rfl (lv_at hl 0 rfl) ?_
    refine r_get (v := .int (rVa r_2)) C hK w.1 (fun w h => List.mem_cons_of_mem _ (inlX2 w h)) 0 rfl rfl 8 (by decide) (List.mem_cons_of_mem _ (inr7 _ (List.mem_of_getElem? (i := 7) rfl))) rfl (dk_at dkX2_readWind 7 rfl) ?_
    refine lv_istore_n (lv' := [(1, .int (rVa r_2)), (0, .ref (a_r 0))]) C.1 C.2.1 (dk_at dkX2_readWind 8 rfl) rfl hl (by decide) rfl (fun ls hl => ?_)
    refine lv_aload_n C.1 C.2.1 (dk_at dkX2_readWind 9 rfl) rfl (lv_at hl 1 rfl) ?_
    refine r_get (v := .int (rTh r_2)) C hK w.1 (fun w h => List.mem_cons_of_mem _ (inlX2 w h)) 0 rfl rfl 9 (by decide) (List.mem_cons_of_mem _ (inr6 _ (List.mem_of_getElem? (i := 22) rfl))) rfl (dk_at dkX2_readWind 10 rfl) ?_
    refine lv_iload_n C.1 C.2.1 (dk_at dkX2_readWind 11 rfl) rfl (lv_at hl 0 rfl) ?_
    refine lv_ishr C.1 C.2.1 (dk_at dkX2_readWind 12 rfl) ?_
    refine lv_topi (fun x5 ex5 => ?_)
    have hf := nm_at ex5 hf
    refine lv_iconst (v := 1) C.1 C.2.1 (dk_at dkX2_readWind 13 rfl) (by decide) ?_
    refine lv_iand C.1 C.2.1 (dk_at dkX2_readWind 14 rfl) ?_
    refine lv_if_eq (tgt := 32) C.1 C.2.1 (dk_at dkX2_readWind 15 rfl) (by decide) (fun c6 => ?_) (fun c6 => ?_)
    · have hf := (if_pos c6).symm.trans hf
      refine lv_aload_n C.1 C.2.1 (dk_at dkX2_readWind 20 rfl) rfl (lv_at hl 1 rfl) ?_
      refine lv_dup C.1 C.2.1 (dk_at dkX2_readWind 21 rfl) rfl ?_
      refine r_get (v := .int (rTh r_2)) C hK w.1 (fun w h => List.mem_cons_of_mem _ (inlX2 w h)) 0 rfl rfl 9 (by decide) (List.mem_cons_of_mem _ (inr6 _ (List.mem_of_getElem? (i := 22) rfl))) rfl (dk_at dkX2_readWind 22 rfl) ?_
      refine lv_iconst (v := 1) C.1 C.2.1 (dk_at dkX2_readWind 23 rfl) (by decide) ?_
      refine lv_iload_n C.1 C.2.1 (dk_at dkX2_readWind 24 rfl) rfl (lv_at hl 0 rfl) ?_
      refine lv_ishl C.1 C.2.1 (dk_at dkX2_readWind 25 rfl) ?_
      refine lv_ior C.1 C.2.1 (dk_at dkX2_readWind 26 rfl) ?_
      refine lv_topi (fun x7 ex7 => ?_)
      have hf := nm_at ex7 hf
      refine r_put (v := .int x7) C hK w (fun w h => List.mem_cons_of_mem _ (inlX2 w h)) tyX2 tyX2_ok nmX2 0 rfl rfl 9 (by decide) (List.mem_cons_of_mem _ (inr6 _ (List.mem_of_getElem? (i := 22) rfl))) rfl rfl rfl (Nat.le_of_ble_eq_true rfl) (dk_at dkX2_readWind 27 rfl) (fun H locs w => ?_)
      obtain ⟨r_8, er_8⟩ : ∃ z : RT, z = rTh' r_2 x7 := ⟨_, rfl⟩
      have hf := nm_at er_8 hf
      have w : Wd g A Z.heap (wR g a_r a_dr r_8 ++ wC g a_dr dr) H locs := by rw [er_8]; exact w
      refine lv_aload_n C.1 C.2.1 (dk_at dkX2_readWind 28 rfl) rfl (lv_at hl 1 rfl) ?_
      refine lv_iconst (v := 5) C.1 C.2.1 (dk_at dkX2_readWind 29 rfl) (by decide) ?_
      obtain ⟨r9, r_10, hq11, hf⟩ := bd2_at hf
      refine r_rwi (As := [.int 5]) (rest := []) (wr := wC g a_dr dr) (ws' := wR g a_r a_dr r_10 ++ wC g a_dr dr) C (kX2_readNumber l g _ a_r a_dr r_8 5 r9 r_10 hq11) (cwV0 C (inr10 _ (List.mem_of_getElem? (i := 10) rfl)) mwX2_readNumber hdX2_readNumber ⟨Nat.le_of_ble_eq_true rfl, Nat.le_of_ble_eq_true rfl⟩) hK w hA [0, 1] [2, 3, 4, 5, 6, 7, 8, 9, 10, 11, 12] [11, 12, 0, 1, 2, 3, 4, 5, 6, 7, 8, 9, 10] (by decide) rfl rfl (by decide) (by decide) rfl (by decide) rfl rfl rfl hl.1 rfl (Nat.le_of_ble_eq_true rfl) ⟨Nat.zero_le _, Nat.zero_le _⟩ (dk_at dkX2_readWind 30 rfl) (fun H locs w => ?_)
      refine lv_if_ne (tgt := 54) C.1 C.2.1 (dk_at dkX2_readWind 31 rfl) (by decide) (fun c12 => ?_) (fun c12 => ?_)
      · have hf := (if_neg c12).symm.trans hf
        refine lv_aload_n C.1 C.2.1 (dk_at dkX2_readWind 34 rfl) rfl (lv_at hl 1 rfl) ?_
        refine r_get (v := .ref (a_dr 0)) C hK w.1 (fun w h => List.mem_cons_of_mem _ (inlX2 w h)) 0 rfl rfl 2 (by decide) (List.mem_cons_of_mem _ (inr2 _ (List.mem_of_getElem? (i := 16) rfl))) rfl (dk_at dkX2_readWind 35 rfl) ?_
        refine r_get (v := .ref (a_dr 1)) C hK w.1 (fun w h => List.mem_cons_of_mem _ (inlX0 w h)) 2 rfl rfl 1 (by decide) (List.mem_cons_of_mem _ (inr11 _ (List.mem_of_getElem? (i := 23) rfl))) rfl (dk_at dkX2_readWind 36 rfl) ?_
        refine lv_iload_n C.1 C.2.1 (dk_at dkX2_readWind 37 rfl) rfl (lv_at hl 0 rfl) ?_
        refine lv_aload_n C.1 C.2.1 (dk_at dkX2_readWind 38 rfl) rfl (lv_at hl 1 rfl) ?_
        refine r_get (v := .int (rVa r_10)) C hK w.1 (fun w h => List.mem_cons_of_mem _ (inlX2 w h)) 0 rfl rfl 8 (by decide) (List.mem_cons_of_mem _ (inr7 _ (List.mem_of_getElem? (i := 7) rfl))) rfl (dk_at dkX2_readWind 39 rfl) ?_
        obtain ⟨h13, hf⟩ := gd_at hf
        refine r_iast (k := (rVa r_2).toNatClampNeg) (f := (cWi dr)) C hK w 3 rfl h13 rfl (dk_at dkX2_readWind 40 rfl) (fun H locs w => ?_)
        obtain ⟨dr_14, edr_14⟩ : ∃ z : CT, z = cWi' dr (upd (cWi dr) ((rVa r_2).toNatClampNeg) (rVa r_10)) := ⟨_, rfl⟩
        have hf := nm_at edr_14 hf
        have w : Wd g A Z.heap (wR g a_r a_dr r_10 ++ wC g a_dr dr_14) H locs := by rw [edr_14]; exact w
        refine lv_iconst (v := 1) C.1 C.2.1 (dk_at dkX2_readWind 41 rfl) (by decide) ?_
        cases hf
        exact fin _ _ _ _ _ (dk_at dkX2_readWind 42 rfl) rfl rfl w
      · have hf := (if_pos c12).symm.trans hf
        refine lv_iconst (v := 0) C.1 C.2.1 (dk_at dkX2_readWind 32 rfl) (by decide) ?_
        cases hf
        exact fin _ _ _ _ _ (dk_at dkX2_readWind 33 rfl) rfl rfl w
    · have hf := (if_neg c6).symm.trans hf
      refine lv_aload_n C.1 C.2.1 (dk_at dkX2_readWind 16 rfl) rfl (lv_at hl 1 rfl) ?_
      refine lv_iconst (v := 4) C.1 C.2.1 (dk_at dkX2_readWind 17 rfl) (by decide) ?_
      obtain ⟨r15, r_16, hq17, hf⟩ := bd2_at hf
      refine r_rwi (As := [.int 4]) (rest := []) (wr := wC g a_dr dr) (ws' := wR g a_r a_dr r_16 ++ wC g a_dr dr) C (kX2_flawed l g _ a_r a_dr r_2 4 r15 r_16 hq17) (cwV0 C (inr7 _ (List.mem_of_getElem? (i := 8) rfl)) mwX2_flawed hdX2_flawed ⟨Nat.le_of_ble_eq_true rfl, Nat.le_of_ble_eq_true rfl⟩) hK w hA [0, 1] [2, 3, 4, 5, 6, 7, 8, 9, 10, 11, 12] [11, 12, 0, 1, 2, 3, 4, 5, 6, 7, 8, 9, 10] (by decide) rfl rfl (by decide) (by decide) rfl (by decide) rfl rfl rfl hl.1 rfl (Nat.le_of_ble_eq_true rfl) ⟨Nat.zero_le _, Nat.zero_le _⟩ (dk_at dkX2_readWind 18 rfl) (fun H locs w => ?_)
      obtain ⟨h18, hf⟩ := gb_at hf
      cases hf
      exact fin _ _ _ _ _ (dk_at dkX2_readWind 19 rfl) h18 rfl w
  · have hf := (if_pos c4).symm.trans hf
    refine lv_iconst (v := 0) C.1 C.2.1 (dk_at dkX2_readWind 4 rfl) (by decide) ?_
    cases hf
    exact fin _ _ _ _ _ (dk_at dkX2_readWind 5 rfl) rfl rfl w
-- X2.readHearer
abbrev tbX2_readHearer : List (Nat × Instr × Nat) := [(0, .aload_n 0, 1), (1, .getfield 18, 3), (4, .getfield 108, 3), (7, .iconst 4, 1), (8, .if_icmp .lt 9, 3), (11, .aload_n 0, 1), (12, .iconst 5, 1), (13, .invokevirtual 68, 3), (16, .ireturn, 1), (17, .aload_n 0, 1), (18, .iconst 1, 1), (19, .invokevirtual 78, 3), (22, .ifCond .ne 5, 3), (25, .iconst 0, 1), (26, .ireturn, 1), (27, .aload_n 0, 1), (28, .getfield 18, 3), (31, .getfield 111, 3), (34, .aload_n 0, 1), (35, .getfield 18, 3), (38, .getfield 108, 3), (41, .aload_n 0, 1), (42, .getfield 81, 3), (45, .iastore, 1), (46, .aload_n 0, 1), (47, .getfield 18, 3), (50, .dup, 1), (51, .getfield 108, 3), (54, .iconst 1, 1), (55, .iadd, 1), (56, .putfield 108, 3), (59, .iconst 1, 1), (60, .ireturn, 1)]
theorem dkX2_readHearer : dk cX2_readHearer tbX2_readHearer := dk_of (by decide +kernel)
abbrev cdX2_readHearer : Cond := Cond.code yX2_readHearer cX2_readHearer 1 (some .boolean)
abbrev rmX2_readHearer : Room := { frames := 3, cells := 0, slots := 0, locals := 63 }
theorem mwX2_readHearer : Cond.instanceMethod yX2_readHearer ∈ wsL_law ∧ Cond.selects RX2 yX2_readHearer yX2_readHearer ∈ wsL_law ∧ Cond.initialized RX2 ∈ wsL_law ∧ cdX2_readHearer ∈ wsL_law := ⟨inr12 _ (List.mem_of_getElem? (i := 1) rfl), inr12 _ (List.mem_of_getElem? (i := 2) rfl), inr1 _ (List.mem_of_getElem? (i := 14) rfl), inr12 _ (List.mem_of_getElem? (i := 3) rfl)⟩
theorem hdX2_readHearer : yX2_readHearer.cls = RX2 ∧ yX2_readHearer.cls ≠ "java/lang/invoke/MethodHandle" ∧ yX2_readHearer.cls ≠ "java/lang/invoke/VarHandle" ∧ (parseMethodDescriptor yX2_readHearer.desc).map (fun d => d.parameters.length) = some 0 := by decide +kernel
set_option maxHeartbeats 4000000 in
set_option maxRecDepth 100000 in
theorem kX2_readHearer (l : Launch) (g : Gx) (sz : Nat) (a_r a_dr : Nat → Nat) (r : RT) (dr : CT) (res : Int32) (r_o : RT) (dr_o : CT) (hf : fX2_readHearer r dr = some (res, r_o, dr_o)) : Met l yX2_readHearer (cdX2_readHearer :: wsL_law) rmX2_readHearer (va_Pc [.ref (a_r 0)] (RWp g sz (wR g a_r a_dr r ++ wC g a_dr dr))) (va_Qi (fun x (_ : Unit) => x = res) (fun _ => RWq g (va_A (wR g a_r a_dr r ++ wC g a_dr dr) sz) (wR g a_r a_dr r_o ++ wC g a_dr dr_o)) (va_A (wR g a_r a_dr r ++ wC g a_dr dr) sz)) 0 0 (va_A (wR g a_r a_dr r ++ wC g a_dr dr) sz) := by
  refine Met_rwz (cc := cX2_readHearer) (maxL := 1) (by decide) rfl (Nat.le_of_ble_eq_true rfl) ?_
  intro P E Z Mi AR BE ME CO A Q C hK hA fin w ls hl
  have hl : lv_has ls 1 [(0, .ref (a_r 0))] := hl
  unfold fX2_readHearer at hf
  refine lv_aload_n C.1 C.2.1 (dk_at dkX2_readHearer 0 rfl) rfl (lv_at hl 0 rfl) ?_
  refine r_get (v := .ref (a_dr 0)) C hK w.1 (fun w h => List.mem_cons_of_mem _ (inlX2 w h)) 0 rfl rfl 2 (by decide) (List.mem_cons_of_mem _ (inr2 _ (List.mem_of_getElem? (i := 16) rfl))) rfl (dk_at dkX2_readHearer 1 rfl) ?_
  refine r_get (v := .int (cHe dr)) C hK w.1 (fun w h => List.mem_cons_of_mem _ (inlX0 w h)) 2 rfl rfl 5 (by decide) (List.mem_cons_of_mem _ (inr12 _ (List.mem_of_getElem? (i := 4) rfl))) rfl (dk_at dkX2_readHearer 2 rfl) ?_
  refine lv_iconst (v := 4) C.1 C.2.1 (dk_at dkX2_readHearer 3 rfl) (by decide) ?_
  refine lv_icmp_lt (tgt := 17) C.1 C.2.1 (dk_at dkX2_readHearer 4 rfl) (by decide) (fun c1 => ?_) (fun c1 => ?_)
  · have hf := (if_pos c1).symm.trans hf
    refine lv_aload_n C.1 C.2.1 (dk_at dkX2_readHearer 9 rfl) rfl (lv_at hl 0 rfl) ?_
    refine lv_iconst (v := 1) C.1 C.2.1 (dk_at dkX2_readHearer 10 rfl) (by decide) ?_
    obtain ⟨r2, r_3, hq4, hf⟩ := bd2_at hf
    refine r_rwi (As := [.int 1]) (rest := []) (wr := wC g a_dr dr) (ws' := wR g a_r a_dr r_3 ++ wC g a_dr dr) C (kX2_readNumber l g _ a_r a_dr r 1 r2 r_3 hq4) (cwV0 C (inr10 _ (List.mem_of_getElem? (i := 10) rfl)) mwX2_readNumber hdX2_readNumber ⟨Nat.le_of_ble_eq_true rfl, Nat.le_of_ble_eq_true rfl⟩) hK w hA [0, 1] [2, 3, 4, 5, 6, 7, 8, 9, 10, 11, 12] [11, 12, 0, 1, 2, 3, 4, 5, 6, 7, 8, 9, 10] (by decide) rfl rfl (by decide) (by decide) rfl (by decide) rfl rfl rfl hl.1 rfl (Nat.le_of_ble_eq_true rfl) ⟨Nat.zero_le _, Nat.zero_le _⟩ (dk_at dkX2_readHearer 11 rfl) (fun H locs w => ?_)
    refine lv_if_ne (tgt := 27) C.1 C.2.1 (dk_at dkX2_readHearer 12 rfl) (by decide) (fun c5 => ?_) (fun c5 => ?_)
    · have hf := (if_neg c5).symm.trans hf
      refine lv_aload_n C.1 C.2.1 (dk_at dkX2_readHearer 15 rfl) rfl (lv_at hl 0 rfl) ?_
      refine r_get (v := .ref (a_dr 0)) C hK w.1 (fun w h => List.mem_cons_of_mem _ (inlX2 w h)) 0 rfl rfl 2 (by decide) (List.mem_cons_of_mem _ (inr2 _ (List.mem_of_getElem? (i := 16) rfl))) rfl (dk_at dkX2_readHearer 16 rfl) ?_
      refine r_get (v := .ref (a_dr 8)) C hK w.1 (fun w h => List.mem_cons_of_mem _ (inlX0 w h)) 2 rfl rfl 4 (by decide) (List.mem_cons_of_mem _ (inr12 _ (List.mem_of_getElem? (i := 5) rfl))) rfl (dk_at dkX2_readHearer 17 rfl) ?_
      refine lv_aload_n C.1 C.2.1 (dk_at dkX2_readHearer 18 rfl) rfl (lv_at hl 0 rfl) ?_
      refine r_get (v := .ref (a_dr 0)) C hK w.1 (fun w h => List.mem_cons_of_mem _ (inlX2 w h)) 0 rfl rfl 2 (by decide) (List.mem_cons_of_mem _ (inr2 _ (List.mem_of_getElem? (i := 16) rfl))) rfl (dk_at dkX2_readHearer 19 rfl) ?_
      refine r_get (v := .int (cHe dr)) C hK w.1 (fun w h => List.mem_cons_of_mem _ (inlX0 w h)) 2 rfl rfl 5 (by decide) (List.mem_cons_of_mem _ (inr12 _ (List.mem_of_getElem? (i := 4) rfl))) rfl (dk_at dkX2_readHearer 20 rfl) ?_
      refine lv_aload_n C.1 C.2.1 (dk_at dkX2_readHearer 21 rfl) rfl (lv_at hl 0 rfl) ?_
      refine r_get (v := .int (rVa r_3)) C hK w.1 (fun w h => List.mem_cons_of_mem _ (inlX2 w h)) 0 rfl rfl 8 (by decide) (List.mem_cons_of_mem _ (inr7 _ (List.mem_of_getElem? (i := 7) rfl))) rfl (dk_at dkX2_readHearer 22 rfl) ?_
      obtain ⟨h6, hf⟩ := gd_at hf
      refine r_iast (k := (cHe dr).toNatClampNeg) (f := (cAt dr)) C hK w 10 rfl h6 rfl (dk_at dkX2_readHearer 23 rfl) (fun H locs w => ?_)
      obtain ⟨dr_7, edr_7⟩ : ∃ z : CT, z = cAt' dr (upd (cAt dr) ((cHe dr).toNatClampNeg) (rVa r_3)) := ⟨_, rfl⟩
      have hf := nm_at edr_7 hf
      have w : Wd g A Z.heap (wR g a_r a_dr r_3 ++ wC g a_dr dr_7) H locs := by rw [edr_7]; exact w
      refine lv_aload_n C.1 C.2.1 (dk_at dkX2_readHearer 24 rfl) rfl (lv_at hl 0 rfl) ?_
      refine r_get (v := .ref (a_dr 0)) C hK w.1 (fun w h => List.mem_cons_of_mem _ (inlX2 w h)) 0 rfl rfl 2 (by decide) (List.mem_cons_of_mem _ (inr2 _ (List.mem_of_getElem? (i := 16) rfl))) rfl (dk_at dkX2_readHearer 25 rfl) ?_
      refine lv_dup C.1 C.2.1 (dk_at dkX2_readHearer 26 rfl) rfl ?_
      refine r_get (v := .int (cHe dr_7)) C hK w.1 (fun w h => List.mem_cons_of_mem _ (inlX0 w h)) 2 rfl rfl 5 (by decide) (List.mem_cons_of_mem _ (inr12 _ (List.mem_of_getElem? (i := 4) rfl))) rfl (dk_at dkX2_readHearer 27 rfl) ?_
      refine lv_iconst (v := 1) C.1 C.2.1 (dk_at dkX2_readHearer 28 rfl) (by decide) ?_
      refine lv_iadd C.1 C.2.1 (dk_at dkX2_readHearer 29 rfl) ?_
      refine lv_topi (fun x8 ex8 => ?_)
      have hf := nm_at ex8 hf
      refine r_put (v := .int x8) C hK w (fun w h => List.mem_cons_of_mem _ (inlX0 w h)) tyX0 tyX0_ok nmX0 2 rfl rfl 5 (by decide) (List.mem_cons_of_mem _ (inr12 _ (List.mem_of_getElem? (i := 4) rfl))) rfl rfl rfl (Nat.le_of_ble_eq_true rfl) (dk_at dkX2_readHearer 30 rfl) (fun H locs w => ?_)
      obtain ⟨dr_9, edr_9⟩ : ∃ z : CT, z = cHe' dr_7 x8 := ⟨_, rfl⟩
      have hf := nm_at edr_9 hf
      have w : Wd g A Z.heap (wR g a_r a_dr r_3 ++ wC g a_dr dr_9) H locs := by rw [edr_9]; exact w
      refine lv_iconst (v := 1) C.1 C.2.1 (dk_at dkX2_readHearer 31 rfl) (by decide) ?_
      cases hf
      exact fin _ _ _ _ _ (dk_at dkX2_readHearer 32 rfl) rfl rfl w
    · have hf := (if_pos c5).symm.trans hf
      refine lv_iconst (v := 0) C.1 C.2.1 (dk_at dkX2_readHearer 13 rfl) (by decide) ?_
      cases hf
      exact fin _ _ _ _ _ (dk_at dkX2_readHearer 14 rfl) rfl rfl w
  · have hf := (if_neg c1).symm.trans hf
    refine lv_aload_n C.1 C.2.1 (dk_at dkX2_readHearer 5 rfl) rfl (lv_at hl 0 rfl) ?_
    refine lv_iconst (v := 5) C.1 C.2.1 (dk_at dkX2_readHearer 6 rfl) (by decide) ?_
    obtain ⟨r10, r_11, hq12, hf⟩ := bd2_at hf
    refine r_rwi (As := [.int 5]) (rest := []) (wr := wC g a_dr dr) (ws' := wR g a_r a_dr r_11 ++ wC g a_dr dr) C (kX2_flawed l g _ a_r a_dr r 5 r10 r_11 hq12) (cwV0 C (inr7 _ (List.mem_of_getElem? (i := 8) rfl)) mwX2_flawed hdX2_flawed ⟨Nat.le_of_ble_eq_true rfl, Nat.le_of_ble_eq_true rfl⟩) hK w hA [0, 1] [2, 3, 4, 5, 6, 7, 8, 9, 10, 11, 12] [11, 12, 0, 1, 2, 3, 4, 5, 6, 7, 8, 9, 10] (by decide) rfl rfl (by decide) (by decide) rfl (by decide) rfl rfl rfl hl.1 rfl (Nat.le_of_ble_eq_true rfl) ⟨Nat.zero_le _, Nat.zero_le _⟩ (dk_at dkX2_readHearer 7 rfl) (fun H locs w => ?_)
    obtain ⟨h13, hf⟩ := gb_at hf
    cases hf
    exact fin _ _ _ _ _ (dk_at dkX2_readHearer 8 rfl) h13 rfl w
-- X2.isName
abbrev tbX2_isName : List (Nat × Instr × Nat) := [(0, .aload_n 1, 1), (1, .invokevirtual 131, 3), (4, .aload_n 0, 1), (5, .getfield 22, 3), (8, .aload_n 0, 1), (9, .getfield 120, 3), (12, .isub, 1), (13, .if_icmp .eq 5, 3), (16, .iconst 0, 1), (17, .ireturn, 1), (18, .iconst 0, 1), (19, .istore_n 2, 1), (20, .iload_n 2, 1), (21, .aload_n 1, 1), (22, .invokevirtual 131, 3), (25, .if_icmp .ge 30, 3), (28, .aload_n 0, 1), (29, .getfield 9, 3), (32, .aload_n 0, 1), (33, .getfield 120, 3), (36, .iload_n 2, 1), (37, .iadd, 1), (38, .baload, 1), (39, .aload_n 1, 1), (40, .iload_n 2, 1), (41, .invokevirtual 136, 3), (44, .if_icmp .eq 5, 3), (47, .iconst 0, 1), (48, .ireturn, 1), (49, .iinc 2 1, 3), (52, .goto (-32), 3), (55, .iconst 1, 1), (56, .ireturn, 1)]
theorem dkX2_isName : dk cX2_isName tbX2_isName := dk_of (by decide +kernel)
abbrev cdX2_isName : Cond := Cond.code yX2_isName cX2_isName 3 (some .boolean)
abbrev rmX2_isName : Room := { frames := 4, cells := 0, slots := 0, locals := 85 }
theorem mwX2_isName : Cond.instanceMethod yX2_isName ∈ wsL_law ∧ Cond.selects RX2 yX2_isName yX2_isName ∈ wsL_law ∧ Cond.initialized RX2 ∈ wsL_law ∧ cdX2_isName ∈ wsL_law := ⟨inr8 _ (List.mem_of_getElem? (i := 0) rfl), inr8 _ (List.mem_of_getElem? (i := 1) rfl), inr1 _ (List.mem_of_getElem? (i := 14) rfl), inr8 _ (List.mem_of_getElem? (i := 2) rfl)⟩
theorem hdX2_isName : yX2_isName.cls = RX2 ∧ yX2_isName.cls ≠ "java/lang/invoke/MethodHandle" ∧ yX2_isName.cls ≠ "java/lang/invoke/VarHandle" ∧ (parseMethodDescriptor yX2_isName.desc).map (fun d => d.parameters.length) = some 1 := by decide +kernel
set_option maxHeartbeats 4000000 in
set_option maxRecDepth 100000 in
theorem kX2_isName (l : Launch) (g : Gx) (sg : SG) (a_r a_dr : Nat → Nat) (r : RT) (i1 : Nat) (hi1 : i1 < 7) (res : Int32) (hf : fX2_isName i1 r = some res) : Met l yX2_isName (cdX2_isName :: wsL_law) rmX2_isName (va_Pc [.ref (a_r 0), .ref (sg.1 i1)] (ROs g (wR g a_r a_dr r) sg)) (vp_Si (fun x => x = res)) 0 0 (fun _ => False) := by
  refine Met_px (cc := cX2_isName) (maxL := 3) (by decide) rfl (Nat.le_of_ble_eq_true rfl) ?_
  intro P E Z Mi AR BE ME CO Q C fin hB ls hl
  have hP := hB.1.1
  have hK := hB.1.2
  have hS : SE sg (fun _ => False) Z Z.heap := hB.2
  have hl : lv_has ls 3 [(0, .ref (a_r 0)), (1, .ref (sg.1 i1))] := hl
  unfold fX2_isName at hf
  refine lv_aload_n C.1 C.2.1 (dk_at dkX2_isName 0 rfl) rfl (lv_at hl 1 rfl) ?_
  refine r_pxV (As := []) (rest := []) C (kJ0_length_8abf5 l sg i1 hi1) (cwV0 C (inr8 _ (List.mem_of_getElem? (i := 3) rfl)) mwJ0_length_8abf5 hdJ0_length_8abf5 ⟨Nat.le_of_ble_eq_true rfl, Nat.le_of_ble_eq_true rfl⟩) SE_blind (vk_recv (locs := []) hS.1 hi1 va_S.rf) (fun U hU hW => by have q := SE.warm hW hS; rw [SEp, hU]; exact q) rfl hl.1 rfl (Nat.le_of_ble_eq_true rfl) ⟨Nat.zero_le _, Nat.zero_le _⟩ (dk_at dkX2_isName 1 rfl) ?_
  refine lv_topi (fun x1 ex1 => ?_)
  have hf := nm_at ex1 hf
  refine lv_aload_n C.1 C.2.1 (dk_at dkX2_isName 2 rfl) rfl (lv_at hl 0 rfl) ?_
  refine r_get (v := .int (rAt r)) C hK hP (fun w h => List.mem_cons_of_mem _ (inlX2 w h)) 0 rfl rfl 5 (by decide) (List.mem_cons_of_mem _ (inr6 _ (List.mem_of_getElem? (i := 19) rfl))) rfl (dk_at dkX2_isName 3 rfl) ?_
  refine lv_aload_n C.1 C.2.1 (dk_at dkX2_isName 4 rfl) rfl (lv_at hl 0 rfl) ?_
  refine r_get (v := .int (rSt r)) C hK hP (fun w h => List.mem_cons_of_mem _ (inlX2 w h)) 0 rfl rfl 7 (by decide) (List.mem_cons_of_mem _ (inr7 _ (List.mem_of_getElem? (i := 6) rfl))) rfl (dk_at dkX2_isName 5 rfl) ?_
  refine lv_isub C.1 C.2.1 (dk_at dkX2_isName 6 rfl) ?_
  refine lv_icmp_eq (tgt := 18) C.1 C.2.1 (dk_at dkX2_isName 7 rfl) (by decide) (fun c2 => ?_) (fun c2 => ?_)
  · have hf := (if_pos c2).symm.trans hf
    refine lv_iconst (v := 0) C.1 C.2.1 (dk_at dkX2_isName 10 rfl) (by decide) ?_
    refine lv_istore_n (lv' := [(2, .int 0), (0, .ref (a_r 0)), (1, .ref (sg.1 i1))]) C.1 C.2.1 (dk_at dkX2_isName 11 rfl) rfl hl (by decide) rfl (fun ls hl => ?_)
    have L4 : ∀ (K : Int32 → Option (Int32)), (∀ (v3 : Int32) (ls : Array Slot), lv_has ls 3 [] → K v3 = some res → W P l E rmX2_isName Z Mi AR BE ME CO Z.heap [] 0 0 Q (F0 Mi 55 ls [])) → ∀ (n : Nat), ∀ (v3 : Int32) (ls : Array Slot), lv_has ls 3 [(2, .int v3), (0, .ref (a_r 0)), (1, .ref (sg.1 i1))] → fX2_isName_L20 r i1 K n v3 = some res → W P l E rmX2_isName Z Mi AR BE ME CO Z.heap [] 0 0 Q (F0 Mi 20 ls []) := by
      intro K hKe n
      induction n with
      | zero => intro v3 ls hl hf; cases hf
      | succ n ih =>
        intro v3 ls hl hf
        rw [fX2_isName_L20] at hf
        refine lv_iload_n C.1 C.2.1 (dk_at dkX2_isName 12 rfl) rfl (lv_at hl 0 rfl) ?_
        refine lv_aload_n C.1 C.2.1 (dk_at dkX2_isName 13 rfl) rfl (lv_at hl 2 rfl) ?_
        refine r_pxV (As := []) (rest := [.int v3]) C (kJ0_length_8abf5 l sg i1 hi1) (cwV0 C (inr8 _ (List.mem_of_getElem? (i := 3) rfl)) mwJ0_length_8abf5 hdJ0_length_8abf5 ⟨Nat.le_of_ble_eq_true rfl, Nat.le_of_ble_eq_true rfl⟩) SE_blind (vk_recv (locs := []) hS.1 hi1 va_S.rf) (fun U hU hW => by have q := SE.warm hW hS; rw [SEp, hU]; exact q) rfl hl.1 rfl (Nat.le_of_ble_eq_true rfl) ⟨Nat.zero_le _, Nat.zero_le _⟩ (dk_at dkX2_isName 14 rfl) ?_
        refine lv_icmp_ge (tgt := 55) C.1 C.2.1 (dk_at dkX2_isName 15 rfl) (by decide) (fun c5 => ?_) (fun c5 => ?_)
        · have hf := (if_pos c5).symm.trans hf
          exact hKe v3 _ (lv_sub hl [] rfl) hf
        · have hf := (if_neg c5).symm.trans hf
          refine lv_aload_n C.1 C.2.1 (dk_at dkX2_isName 16 rfl) rfl (lv_at hl 1 rfl) ?_
          refine r_get (v := .ref (a_r 1)) C hK hP (fun w h => List.mem_cons_of_mem _ (inlX2 w h)) 0 rfl rfl 0 (by decide) (List.mem_cons_of_mem _ (inr2 _ (List.mem_of_getElem? (i := 14) rfl))) rfl (dk_at dkX2_isName 17 rfl) ?_
          refine lv_aload_n C.1 C.2.1 (dk_at dkX2_isName 18 rfl) rfl (lv_at hl 1 rfl) ?_
          refine r_get (v := .int (rSt r)) C hK hP (fun w h => List.mem_cons_of_mem _ (inlX2 w h)) 0 rfl rfl 7 (by decide) (List.mem_cons_of_mem _ (inr7 _ (List.mem_of_getElem? (i := 6) rfl))) rfl (dk_at dkX2_isName 19 rfl) ?_
          refine lv_iload_n C.1 C.2.1 (dk_at dkX2_isName 20 rfl) rfl (lv_at hl 0 rfl) ?_
          refine lv_iadd C.1 C.2.1 (dk_at dkX2_isName 21 rfl) ?_
          refine lv_topi (fun x6 ex6 => ?_)
          have hf := nm_at ex6 hf
          obtain ⟨h7, hf⟩ := gd_at hf
          refine r_bald (k := x6.toNatClampNeg) (f := (rTa r)) C hK hP 1 rfl h7 rfl (dk_at dkX2_isName 22 rfl) ?_
          refine lv_topi (fun x8 ex8 => ?_)
          have hf := nm_at ex8 hf
          refine lv_aload_n C.1 C.2.1 (dk_at dkX2_isName 23 rfl) rfl (lv_at hl 2 rfl) ?_
          refine lv_iload_n C.1 C.2.1 (dk_at dkX2_isName 24 rfl) rfl (lv_at hl 0 rfl) ?_
          obtain ⟨h9, hf⟩ := gd_at hf
          refine r_pxV (As := [.int v3]) (rest := [.int x8]) C (kJ0_charAt_5068e l sg i1 hi1 v3 h9) (cwV0 C (inr8 _ (List.mem_of_getElem? (i := 15) rfl)) mwJ0_charAt_5068e hdJ0_charAt_5068e ⟨Nat.le_of_ble_eq_true rfl, Nat.le_of_ble_eq_true rfl⟩) SE_blind (vk_recv (locs := []) hS.1 hi1 va_S.rf) (fun U hU hW => by have q := SE.warm hW hS; rw [SEp, hU]; exact q) rfl hl.1 rfl (Nat.le_of_ble_eq_true rfl) ⟨Nat.zero_le _, Nat.zero_le _⟩ (dk_at dkX2_isName 25 rfl) ?_
          refine lv_icmp_eq (tgt := 49) C.1 C.2.1 (dk_at dkX2_isName 26 rfl) (by decide) (fun c10 => ?_) (fun c10 => ?_)
          · have hf := (if_pos c10).symm.trans hf
            obtain ⟨x11, ex11⟩ : ∃ z : Int32, z = v3 + 1 := ⟨_, rfl⟩
            have hf := nm_at ex11 hf
            refine lv_iinc (v := x11) (lv' := [(2, .int x11), (0, .ref (a_r 0)), (1, .ref (sg.1 i1))]) C.1 C.2.1 (dk_at dkX2_isName 29 rfl) hl (k := 0) rfl (by rw [ex11]; rfl) (by decide) rfl (fun ls hl => ?_)
            refine lv_goto (tgt := 20) C.1 C.2.1 (dk_at dkX2_isName 30 rfl) (by decide) ?_
            exact ih x11 _ (lv_sub hl [0, 1, 2] rfl) hf
          · have hf := (if_neg c10).symm.trans hf
            refine lv_iconst (v := 0) C.1 C.2.1 (dk_at dkX2_isName 27 rfl) (by decide) ?_
            cases hf
            exact fin _ _ _ (dk_at dkX2_isName 28 rfl) rfl rfl
    refine L4 _ ?_ 4096 0 _ (lv_sub hl [0, 1, 2] rfl) hf
    clear hf
    intro v3 ls hl hf
    refine lv_iconst (v := 1) C.1 C.2.1 (dk_at dkX2_isName 31 rfl) (by decide) ?_
    cases hf
    exact fin _ _ _ (dk_at dkX2_isName 32 rfl) rfl rfl
  · have hf := (if_neg c2).symm.trans hf
    refine lv_iconst (v := 0) C.1 C.2.1 (dk_at dkX2_isName 8 rfl) (by decide) ?_
    cases hf
    exact fin _ _ _ (dk_at dkX2_isName 9 rfl) rfl rfl
-- X2.lineNamed
abbrev tbX2_lineNamed : List (Nat × Instr × Nat) := [(0, .iconst 0, 1), (1, .istore_n 1, 1), (2, .iload_n 1, 1), (3, .bipush 7, 2), (5, .if_icmp .ge 22, 3), (8, .aload_n 0, 1), (9, .iload_n 1, 1), (10, .invokestatic 123, 3), (13, .invokevirtual 127, 3), (16, .ifCond .eq 5, 3), (19, .iload_n 1, 1), (20, .ireturn, 1), (21, .iinc 1 1, 3), (24, .goto (-22), 3), (27, .bipush 7, 2), (29, .ireturn, 1)]
theorem dkX2_lineNamed : dk cX2_lineNamed tbX2_lineNamed := dk_of (by decide +kernel)
abbrev cdX2_lineNamed : Cond := Cond.code yX2_lineNamed cX2_lineNamed 2 (some .int)
abbrev rmX2_lineNamed : Room := { frames := 5, cells := 0, slots := 0, locals := 107 }
theorem mwX2_lineNamed : Cond.instanceMethod yX2_lineNamed ∈ wsL_law ∧ Cond.selects RX2 yX2_lineNamed yX2_lineNamed ∈ wsL_law ∧ Cond.initialized RX2 ∈ wsL_law ∧ cdX2_lineNamed ∈ wsL_law := ⟨inr7 _ (List.mem_of_getElem? (i := 17) rfl), inr7 _ (List.mem_of_getElem? (i := 18) rfl), inr1 _ (List.mem_of_getElem? (i := 14) rfl), inr7 _ (List.mem_of_getElem? (i := 19) rfl)⟩
theorem hdX2_lineNamed : yX2_lineNamed.cls = RX2 ∧ yX2_lineNamed.cls ≠ "java/lang/invoke/MethodHandle" ∧ yX2_lineNamed.cls ≠ "java/lang/invoke/VarHandle" ∧ (parseMethodDescriptor yX2_lineNamed.desc).map (fun d => d.parameters.length) = some 0 := by decide +kernel
set_option maxHeartbeats 4000000 in
set_option maxRecDepth 100000 in
theorem kX2_lineNamed (l : Launch) (g : Gx) (sg : SG) (a_r a_dr : Nat → Nat) (r : RT) (res : Int32) (hf : fX2_lineNamed r = some res) : Met l yX2_lineNamed (cdX2_lineNamed :: wsL_law) rmX2_lineNamed (va_Pc [.ref (a_r 0)] (ROs g (wR g a_r a_dr r) sg)) (vp_Si (fun x => x = res)) 0 0 (fun _ => False) := by
  refine Met_px (cc := cX2_lineNamed) (maxL := 2) (by decide) rfl (Nat.le_of_ble_eq_true rfl) ?_
  intro P E Z Mi AR BE ME CO Q C fin hB ls hl
  have hP := hB.1.1
  have hK := hB.1.2
  have hS : SE sg (fun _ => False) Z Z.heap := hB.2
  have hl : lv_has ls 2 [(0, .ref (a_r 0))] := hl
  unfold fX2_lineNamed at hf
  refine lv_iconst (v := 0) C.1 C.2.1 (dk_at dkX2_lineNamed 0 rfl) (by decide) ?_
  refine lv_istore_n (lv' := [(1, .int 0), (0, .ref (a_r 0))]) C.1 C.2.1 (dk_at dkX2_lineNamed 1 rfl) rfl hl (by decide) rfl (fun ls hl => ?_)
  have L2 : ∀ (K : Int32 → Option (Int32)), (∀ (v1 : Int32) (ls : Array Slot), lv_has ls 2 [] → K v1 = some res → W P l E rmX2_lineNamed Z Mi AR BE ME CO Z.heap [] 0 0 Q (F0 Mi 27 ls [])) → ∀ (n : Nat), ∀ (v1 : Int32) (ls : Array Slot), lv_has ls 2 [(1, .int v1), (0, .ref (a_r 0))] → fX2_lineNamed_L2 r K n v1 = some res → W P l E rmX2_lineNamed Z Mi AR BE ME CO Z.heap [] 0 0 Q (F0 Mi 2 ls []) := by
    intro K hKe n
    induction n with
    | zero => intro v1 ls hl hf; cases hf
    | succ n ih =>
      intro v1 ls hl hf
      rw [fX2_lineNamed_L2] at hf
      refine lv_iload_n C.1 C.2.1 (dk_at dkX2_lineNamed 2 rfl) rfl (lv_at hl 0 rfl) ?_
      refine lv_bipush (v := 7) C.1 C.2.1 (dk_at dkX2_lineNamed 3 rfl) (by decide) ?_
      refine lv_icmp_ge (tgt := 27) C.1 C.2.1 (dk_at dkX2_lineNamed 4 rfl) (by decide) (fun c3 => ?_) (fun c3 => ?_)
      · have hf := (if_pos c3).symm.trans hf
        exact hKe v1 _ (lv_sub hl [] rfl) hf
      · have hf := (if_neg c3).symm.trans hf
        refine lv_aload_n C.1 C.2.1 (dk_at dkX2_lineNamed 5 rfl) rfl (lv_at hl 1 rfl) ?_
        refine lv_iload_n C.1 C.2.1 (dk_at dkX2_lineNamed 6 rfl) rfl (lv_at hl 0 rfl) ?_
        obtain ⟨i4, hq5, hf⟩ := bd1_at hf
        refine r_prS (As := [.int v1]) (rest := [.ref (a_r 0)]) C (kX2_nameOf l sg v1 i4 hq5) (cwS0 C (inr7 _ (List.mem_of_getElem? (i := 20) rfl)) mwX2_nameOf hdX2_nameOf ⟨Nat.le_of_ble_eq_true rfl, Nat.le_of_ble_eq_true rfl⟩) SE_blind (fun U hU hW => by have q := SE.warm hW hS; rw [SEp, hU]; exact q) rfl hl.1 rfl (Nat.le_of_ble_eq_true rfl) ⟨Nat.zero_le _, Nat.zero_le _⟩ (dk_at dkX2_lineNamed 7 rfl) ?_
        obtain ⟨r6, hq7, hf⟩ := bd1_at hf
        refine r_pxV (As := [.ref (sg.1 i4)]) (rest := []) C (kX2_isName l g sg a_r a_dr r i4 (nameOf_lt hq5) r6 hq7) (cwV0 C (inr7 _ (List.mem_of_getElem? (i := 23) rfl)) mwX2_isName hdX2_isName ⟨Nat.le_of_ble_eq_true rfl, Nat.le_of_ble_eq_true rfl⟩) ROs_blind (va_recv (ci := 2) (q0 := 0) hK hP rfl rfl) (fun U hU hW => ⟨⟨by rw [hU]; exact hP, va_K.moved hW.alike hK⟩, by have q := SE.warm hW hS; rw [SEp, hU]; exact q⟩) rfl hl.1 rfl (Nat.le_of_ble_eq_true rfl) ⟨Nat.zero_le _, Nat.zero_le _⟩ (dk_at dkX2_lineNamed 8 rfl) ?_
        refine lv_if_eq (tgt := 21) C.1 C.2.1 (dk_at dkX2_lineNamed 9 rfl) (by decide) (fun c8 => ?_) (fun c8 => ?_)
        · have hf := (if_pos c8).symm.trans hf
          obtain ⟨x9, ex9⟩ : ∃ z : Int32, z = v1 + 1 := ⟨_, rfl⟩
          have hf := nm_at ex9 hf
          refine lv_iinc (v := x9) (lv' := [(1, .int x9), (0, .ref (a_r 0))]) C.1 C.2.1 (dk_at dkX2_lineNamed 12 rfl) hl (k := 0) rfl (by rw [ex9]; rfl) (by decide) rfl (fun ls hl => ?_)
          refine lv_goto (tgt := 2) C.1 C.2.1 (dk_at dkX2_lineNamed 13 rfl) (by decide) ?_
          exact ih x9 _ (lv_sub hl [0, 1] rfl) hf
        · have hf := (if_neg c8).symm.trans hf
          refine lv_iload_n C.1 C.2.1 (dk_at dkX2_lineNamed 10 rfl) rfl (lv_at hl 0 rfl) ?_
          cases hf
          exact fin _ _ _ (dk_at dkX2_lineNamed 11 rfl) rfl rfl
  refine L2 _ ?_ 4096 0 _ (lv_sub hl [0, 1] rfl) hf
  clear hf
  intro v1 ls hl hf
  refine lv_bipush (v := 7) C.1 C.2.1 (dk_at dkX2_lineNamed 14 rfl) (by decide) ?_
  cases hf
  exact fin _ _ _ (dk_at dkX2_lineNamed 15 rfl) rfl rfl
-- X2.readLine
abbrev tbX2_readLine : List (Nat × Instr × Nat) := [(0, .aload_n 0, 1), (1, .getfield 42, 3), (4, .iconst 1, 1), (5, .if_icmp .ne 10, 3), (8, .aload_n 0, 1), (9, .invokevirtual 48, 3), (12, .goto 5, 3), (15, .bipush 7, 2), (17, .istore_n 1, 1), (18, .iload_n 1, 1), (19, .tableswitch 122 0 6 #[41, 41, 41, 41, 62, 82, 102], 41), (60, .aload_n 0, 1), (61, .iload_n 1, 1), (62, .invokevirtual 52, 3), (65, .ifCond .eq 14, 3), (68, .aload_n 0, 1), (69, .invokevirtual 56, 3), (72, .ifCond .eq 7, 3), (75, .iconst 1, 1), (76, .goto 4, 3), (79, .iconst 0, 1), (80, .ireturn, 1), (81, .aload_n 0, 1), (82, .invokevirtual 59, 3), (85, .ifCond .eq 14, 3), (88, .aload_n 0, 1), (89, .invokevirtual 56, 3), (92, .ifCond .eq 7, 3), (95, .iconst 1, 1), (96, .goto 4, 3), (99, .iconst 0, 1), (100, .ireturn, 1), (101, .aload_n 0, 1), (102, .invokevirtual 62, 3), (105, .ifCond .eq 14, 3), (108, .aload_n 0, 1), (109, .invokevirtual 56, 3), (112, .ifCond .eq 7, 3), (115, .iconst 1, 1), (116, .goto 4, 3), (119, .iconst 0, 1), (120, .ireturn, 1), (121, .aload_n 0, 1), (122, .invokevirtual 65, 3), (125, .ifCond .eq 14, 3), (128, .aload_n 0, 1), (129, .invokevirtual 56, 3), (132, .ifCond .eq 7, 3), (135, .iconst 1, 1), (136, .goto 4, 3), (139, .iconst 0, 1), (140, .ireturn, 1), (141, .aload_n 0, 1), (142, .iconst 2, 1), (143, .invokevirtual 68, 3), (146, .ireturn, 1)]
theorem dkX2_readLine : dk cX2_readLine tbX2_readLine := dk_of (by decide +kernel)
abbrev cdX2_readLine : Cond := Cond.code yX2_readLine cX2_readLine 2 (some .boolean)
abbrev rmX2_readLine : Room := { frames := 6, cells := 0, slots := 0, locals := 128 }
theorem mwX2_readLine : Cond.instanceMethod yX2_readLine ∈ wsL_law ∧ Cond.selects RX2 yX2_readLine yX2_readLine ∈ wsL_law ∧ Cond.initialized RX2 ∈ wsL_law ∧ cdX2_readLine ∈ wsL_law := ⟨inr7 _ (List.mem_of_getElem? (i := 13) rfl), inr7 _ (List.mem_of_getElem? (i := 14) rfl), inr1 _ (List.mem_of_getElem? (i := 14) rfl), inr7 _ (List.mem_of_getElem? (i := 15) rfl)⟩
theorem hdX2_readLine : yX2_readLine.cls = RX2 ∧ yX2_readLine.cls ≠ "java/lang/invoke/MethodHandle" ∧ yX2_readLine.cls ≠ "java/lang/invoke/VarHandle" ∧ (parseMethodDescriptor yX2_readLine.desc).map (fun d => d.parameters.length) = some 0 := by decide +kernel
set_option maxHeartbeats 4000000 in
set_option maxRecDepth 100000 in
theorem kX2_readLine (l : Launch) (g : Gx) (sg : SG) (sz : Nat) (a_r a_dr : Nat → Nat) (r : RT) (dr : CT) (res : Int32) (r_o : RT) (dr_o : CT) (hf : fX2_readLine r dr = some (res, r_o, dr_o)) : Met l yX2_readLine (cdX2_readLine :: wsL_law) rmX2_readLine (va_Pc [.ref (a_r 0)] (RWs g sz (wR g a_r a_dr r ++ wC g a_dr dr) sg)) (va_Qi (fun x (_ : Unit) => x = res) (fun _ => RWq g (va_A (wR g a_r a_dr r ++ wC g a_dr dr) sz) (wR g a_r a_dr r_o ++ wC g a_dr dr_o)) (va_A (wR g a_r a_dr r ++ wC g a_dr dr) sz)) 0 0 (va_A (wR g a_r a_dr r ++ wC g a_dr dr) sz) := by
  refine Met_rwzS (cc := cX2_readLine) (maxL := 2) (by decide) rfl (Nat.le_of_ble_eq_true rfl) ?_
  intro P E Z Mi AR BE ME CO A Q C hK hA fin w hSE ls hl
  have hl : lv_has ls 2 [(0, .ref (a_r 0))] := hl
  unfold fX2_readLine at hf
  refine lv_aload_n C.1 C.2.1 (dk_at dkX2_readLine 0 rfl) rfl (lv_at hl 0 rfl) ?_
  refine r_get (v := .int (rTo r)) C hK w.1 (fun w h => List.mem_cons_of_mem _ (inlX2 w h)) 0 rfl rfl 6 (by decide) (List.mem_cons_of_mem _ (inr6 _ (List.mem_of_getElem? (i := 23) rfl))) rfl (dk_at dkX2_readLine 1 rfl) ?_
  refine lv_iconst (v := 1) C.1 C.2.1 (dk_at dkX2_readLine 2 rfl) (by decide) ?_
  obtain ⟨y1, hq2, hf⟩ := bd1_at hf
  have J3 : ∀ (H : Heap) (locs : List Loc) (ls : Array Slot), Wd g A Z.heap (wR g a_r a_dr r ++ wC g a_dr dr) H locs → lv_has ls 2 [(0, .ref (a_r 0))] → W P l E rmX2_readLine Z Mi AR BE ME CO H locs 0 0 Q (F0 Mi 17 ls [.int y1]) := by
    intro H locs ls w hl
    refine lv_istore_n (lv' := [(1, .int y1), (0, .ref (a_r 0))]) C.1 C.2.1 (dk_at dkX2_readLine 8 rfl) rfl hl (by decide) rfl (fun ls hl => ?_)
    refine lv_iload_n C.1 C.2.1 (dk_at dkX2_readLine 9 rfl) rfl (lv_at hl 0 rfl) ?_
    by_cases c4 : y1 = 0
    · have hf := (if_pos c4).symm.trans hf
      refine lv_tableIn (tgt := 60) C.1 C.2.1 (dk_at dkX2_readLine 10 rfl) (by rw [c4]; decide) (by rw [c4]; decide) (by rw [c4]; rfl) (by decide) ?_
      refine lv_aload_n C.1 C.2.1 (dk_at dkX2_readLine 11 rfl) rfl (lv_at hl 1 rfl) ?_
      refine lv_iload_n C.1 C.2.1 (dk_at dkX2_readLine 12 rfl) rfl (lv_at hl 0 rfl) ?_
      obtain ⟨r5, r_6, dr_7, hq8, hf⟩ := bd3_at hf
      refine r_rwi (As := [.int y1]) (rest := []) (wr := []) (ws' := wR g a_r a_dr r_6 ++ wC g a_dr dr_7) C (kX2_readSaying l g _ a_r a_dr r dr y1 r5 r_6 dr_7 hq8) (cwV0 C (inr10 _ (List.mem_of_getElem? (i := 4) rfl)) mwX2_readSaying hdX2_readSaying ⟨Nat.le_of_ble_eq_true rfl, Nat.le_of_ble_eq_true rfl⟩) hK w hA [0, 1, 2, 3, 4, 5, 6, 7, 8, 9, 10, 11, 12] [] [0, 1, 2, 3, 4, 5, 6, 7, 8, 9, 10, 11, 12] (by decide) rfl rfl (by decide) (by decide) rfl (by decide) rfl rfl rfl hl.1 rfl (Nat.le_of_ble_eq_true rfl) ⟨Nat.zero_le _, Nat.zero_le _⟩ (dk_at dkX2_readLine 13 rfl) (fun H locs w => ?_)
      refine lv_if_eq (tgt := 79) C.1 C.2.1 (dk_at dkX2_readLine 14 rfl) (by decide) (fun c9 => ?_) (fun c9 => ?_)
      · have hf := (if_pos c9).symm.trans hf
        refine lv_iconst (v := 0) C.1 C.2.1 (dk_at dkX2_readLine 20 rfl) (by decide) ?_
        cases hf
        exact fin _ _ _ _ _ (dk_at dkX2_readLine 21 rfl) rfl rfl w
      · have hf := (if_neg c9).symm.trans hf
        refine lv_aload_n C.1 C.2.1 (dk_at dkX2_readLine 15 rfl) rfl (lv_at hl 1 rfl) ?_
        obtain ⟨r10, r_11, hq12, hf⟩ := bd2_at hf
        refine r_rwi (As := []) (rest := []) (wr := wC g a_dr dr_7) (ws' := wR g a_r a_dr r_11 ++ wC g a_dr dr_7) C (kX2_readStop l g _ a_r a_dr r_6 r10 r_11 hq12) (cwV0 C (inr10 _ (List.mem_of_getElem? (i := 21) rfl)) mwX2_readStop hdX2_readStop ⟨Nat.le_of_ble_eq_true rfl, Nat.le_of_ble_eq_true rfl⟩) hK w hA [0, 1] [2, 3, 4, 5, 6, 7, 8, 9, 10, 11, 12] [11, 12, 0, 1, 2, 3, 4, 5, 6, 7, 8, 9, 10] (by decide) rfl rfl (by decide) (by decide) rfl (by decide) rfl rfl rfl hl.1 rfl (Nat.le_of_ble_eq_true rfl) ⟨Nat.zero_le _, Nat.zero_le _⟩ (dk_at dkX2_readLine 16 rfl) (fun H locs w => ?_)
        refine lv_if_eq (tgt := 79) C.1 C.2.1 (dk_at dkX2_readLine 17 rfl) (by decide) (fun c13 => ?_) (fun c13 => ?_)
        · have hf := (if_pos c13).symm.trans hf
          refine lv_iconst (v := 0) C.1 C.2.1 (dk_at dkX2_readLine 20 rfl) (by decide) ?_
          cases hf
          exact fin _ _ _ _ _ (dk_at dkX2_readLine 21 rfl) rfl rfl w
        · have hf := (if_neg c13).symm.trans hf
          refine lv_iconst (v := 1) C.1 C.2.1 (dk_at dkX2_readLine 18 rfl) (by decide) ?_
          refine lv_goto (tgt := 80) C.1 C.2.1 (dk_at dkX2_readLine 19 rfl) (by decide) ?_
          cases hf
          exact fin _ _ _ _ _ (dk_at dkX2_readLine 21 rfl) rfl rfl w
    have hf := (if_neg c4).symm.trans hf
    by_cases c14 : y1 = 1
    · have hf := (if_pos c14).symm.trans hf
      refine lv_tableIn (tgt := 60) C.1 C.2.1 (dk_at dkX2_readLine 10 rfl) (by rw [c14]; decide) (by rw [c14]; decide) (by rw [c14]; rfl) (by decide) ?_
      refine lv_aload_n C.1 C.2.1 (dk_at dkX2_readLine 11 rfl) rfl (lv_at hl 1 rfl) ?_
      refine lv_iload_n C.1 C.2.1 (dk_at dkX2_readLine 12 rfl) rfl (lv_at hl 0 rfl) ?_
      obtain ⟨r15, r_16, dr_17, hq18, hf⟩ := bd3_at hf
      refine r_rwi (As := [.int y1]) (rest := []) (wr := []) (ws' := wR g a_r a_dr r_16 ++ wC g a_dr dr_17) C (kX2_readSaying l g _ a_r a_dr r dr y1 r15 r_16 dr_17 hq18) (cwV0 C (inr10 _ (List.mem_of_getElem? (i := 4) rfl)) mwX2_readSaying hdX2_readSaying ⟨Nat.le_of_ble_eq_true rfl, Nat.le_of_ble_eq_true rfl⟩) hK w hA [0, 1, 2, 3, 4, 5, 6, 7, 8, 9, 10, 11, 12] [] [0, 1, 2, 3, 4, 5, 6, 7, 8, 9, 10, 11, 12] (by decide) rfl rfl (by decide) (by decide) rfl (by decide) rfl rfl rfl hl.1 rfl (Nat.le_of_ble_eq_true rfl) ⟨Nat.zero_le _, Nat.zero_le _⟩ (dk_at dkX2_readLine 13 rfl) (fun H locs w => ?_)
      refine lv_if_eq (tgt := 79) C.1 C.2.1 (dk_at dkX2_readLine 14 rfl) (by decide) (fun c19 => ?_) (fun c19 => ?_)
      · have hf := (if_pos c19).symm.trans hf
        refine lv_iconst (v := 0) C.1 C.2.1 (dk_at dkX2_readLine 20 rfl) (by decide) ?_
        cases hf
        exact fin _ _ _ _ _ (dk_at dkX2_readLine 21 rfl) rfl rfl w
      · have hf := (if_neg c19).symm.trans hf
        refine lv_aload_n C.1 C.2.1 (dk_at dkX2_readLine 15 rfl) rfl (lv_at hl 1 rfl) ?_
        obtain ⟨r20, r_21, hq22, hf⟩ := bd2_at hf
        refine r_rwi (As := []) (rest := []) (wr := wC g a_dr dr_17) (ws' := wR g a_r a_dr r_21 ++ wC g a_dr dr_17) C (kX2_readStop l g _ a_r a_dr r_16 r20 r_21 hq22) (cwV0 C (inr10 _ (List.mem_of_getElem? (i := 21) rfl)) mwX2_readStop hdX2_readStop ⟨Nat.le_of_ble_eq_true rfl, Nat.le_of_ble_eq_true rfl⟩) hK w hA [0, 1] [2, 3, 4, 5, 6, 7, 8, 9, 10, 11, 12] [11, 12, 0, 1, 2, 3, 4, 5, 6, 7, 8, 9, 10] (by decide) rfl rfl (by decide) (by decide) rfl (by decide) rfl rfl rfl hl.1 rfl (Nat.le_of_ble_eq_true rfl) ⟨Nat.zero_le _, Nat.zero_le _⟩ (dk_at dkX2_readLine 16 rfl) (fun H locs w => ?_)
        refine lv_if_eq (tgt := 79) C.1 C.2.1 (dk_at dkX2_readLine 17 rfl) (by decide) (fun c23 => ?_) (fun c23 => ?_)
        · have hf := (if_pos c23).symm.trans hf
          refine lv_iconst (v := 0) C.1 C.2.1 (dk_at dkX2_readLine 20 rfl) (by decide) ?_
          cases hf
          exact fin _ _ _ _ _ (dk_at dkX2_readLine 21 rfl) rfl rfl w
        · have hf := (if_neg c23).symm.trans hf
          refine lv_iconst (v := 1) C.1 C.2.1 (dk_at dkX2_readLine 18 rfl) (by decide) ?_
          refine lv_goto (tgt := 80) C.1 C.2.1 (dk_at dkX2_readLine 19 rfl) (by decide) ?_
          cases hf
          exact fin _ _ _ _ _ (dk_at dkX2_readLine 21 rfl) rfl rfl w
    have hf := (if_neg c14).symm.trans hf
    by_cases c24 : y1 = 2
    · have hf := (if_pos c24).symm.trans hf
      refine lv_tableIn (tgt := 60) C.1 C.2.1 (dk_at dkX2_readLine 10 rfl) (by rw [c24]; decide) (by rw [c24]; decide) (by rw [c24]; rfl) (by decide) ?_
      refine lv_aload_n C.1 C.2.1 (dk_at dkX2_readLine 11 rfl) rfl (lv_at hl 1 rfl) ?_
      refine lv_iload_n C.1 C.2.1 (dk_at dkX2_readLine 12 rfl) rfl (lv_at hl 0 rfl) ?_
      obtain ⟨r25, r_26, dr_27, hq28, hf⟩ := bd3_at hf
      refine r_rwi (As := [.int y1]) (rest := []) (wr := []) (ws' := wR g a_r a_dr r_26 ++ wC g a_dr dr_27) C (kX2_readSaying l g _ a_r a_dr r dr y1 r25 r_26 dr_27 hq28) (cwV0 C (inr10 _ (List.mem_of_getElem? (i := 4) rfl)) mwX2_readSaying hdX2_readSaying ⟨Nat.le_of_ble_eq_true rfl, Nat.le_of_ble_eq_true rfl⟩) hK w hA [0, 1, 2, 3, 4, 5, 6, 7, 8, 9, 10, 11, 12] [] [0, 1, 2, 3, 4, 5, 6, 7, 8, 9, 10, 11, 12] (by decide) rfl rfl (by decide) (by decide) rfl (by decide) rfl rfl rfl hl.1 rfl (Nat.le_of_ble_eq_true rfl) ⟨Nat.zero_le _, Nat.zero_le _⟩ (dk_at dkX2_readLine 13 rfl) (fun H locs w => ?_)
      refine lv_if_eq (tgt := 79) C.1 C.2.1 (dk_at dkX2_readLine 14 rfl) (by decide) (fun c29 => ?_) (fun c29 => ?_)
      · have hf := (if_pos c29).symm.trans hf
        refine lv_iconst (v := 0) C.1 C.2.1 (dk_at dkX2_readLine 20 rfl) (by decide) ?_
        cases hf
        exact fin _ _ _ _ _ (dk_at dkX2_readLine 21 rfl) rfl rfl w
      · have hf := (if_neg c29).symm.trans hf
        refine lv_aload_n C.1 C.2.1 (dk_at dkX2_readLine 15 rfl) rfl (lv_at hl 1 rfl) ?_
        obtain ⟨r30, r_31, hq32, hf⟩ := bd2_at hf
        refine r_rwi (As := []) (rest := []) (wr := wC g a_dr dr_27) (ws' := wR g a_r a_dr r_31 ++ wC g a_dr dr_27) C (kX2_readStop l g _ a_r a_dr r_26 r30 r_31 hq32) (cwV0 C (inr10 _ (List.mem_of_getElem? (i := 21) rfl)) mwX2_readStop hdX2_readStop ⟨Nat.le_of_ble_eq_true rfl, Nat.le_of_ble_eq_true rfl⟩) hK w hA [0, 1] [2, 3, 4, 5, 6, 7, 8, 9, 10, 11, 12] [11, 12, 0, 1, 2, 3, 4, 5, 6, 7, 8, 9, 10] (by decide) rfl rfl (by decide) (by decide) rfl (by decide) rfl rfl rfl hl.1 rfl (Nat.le_of_ble_eq_true rfl) ⟨Nat.zero_le _, Nat.zero_le _⟩ (dk_at dkX2_readLine 16 rfl) (fun H locs w => ?_)
        refine lv_if_eq (tgt := 79) C.1 C.2.1 (dk_at dkX2_readLine 17 rfl) (by decide) (fun c33 => ?_) (fun c33 => ?_)
        · have hf := (if_pos c33).symm.trans hf
          refine lv_iconst (v := 0) C.1 C.2.1 (dk_at dkX2_readLine 20 rfl) (by decide) ?_
          cases hf
          exact fin _ _ _ _ _ (dk_at dkX2_readLine 21 rfl) rfl rfl w
        · have hf := (if_neg c33).symm.trans hf
          refine lv_iconst (v := 1) C.1 C.2.1 (dk_at dkX2_readLine 18 rfl) (by decide) ?_
          refine lv_goto (tgt := 80) C.1 C.2.1 (dk_at dkX2_readLine 19 rfl) (by decide) ?_
          cases hf
          exact fin _ _ _ _ _ (dk_at dkX2_readLine 21 rfl) rfl rfl w
    have hf := (if_neg c24).symm.trans hf
    by_cases c34 : y1 = 3
    · have hf := (if_pos c34).symm.trans hf
      refine lv_tableIn (tgt := 60) C.1 C.2.1 (dk_at dkX2_readLine 10 rfl) (by rw [c34]; decide) (by rw [c34]; decide) (by rw [c34]; rfl) (by decide) ?_
      refine lv_aload_n C.1 C.2.1 (dk_at dkX2_readLine 11 rfl) rfl (lv_at hl 1 rfl) ?_
      refine lv_iload_n C.1 C.2.1 (dk_at dkX2_readLine 12 rfl) rfl (lv_at hl 0 rfl) ?_
      obtain ⟨r35, r_36, dr_37, hq38, hf⟩ := bd3_at hf
      refine r_rwi (As := [.int y1]) (rest := []) (wr := []) (ws' := wR g a_r a_dr r_36 ++ wC g a_dr dr_37) C (kX2_readSaying l g _ a_r a_dr r dr y1 r35 r_36 dr_37 hq38) (cwV0 C (inr10 _ (List.mem_of_getElem? (i := 4) rfl)) mwX2_readSaying hdX2_readSaying ⟨Nat.le_of_ble_eq_true rfl, Nat.le_of_ble_eq_true rfl⟩) hK w hA [0, 1, 2, 3, 4, 5, 6, 7, 8, 9, 10, 11, 12] [] [0, 1, 2, 3, 4, 5, 6, 7, 8, 9, 10, 11, 12] (by decide) rfl rfl (by decide) (by decide) rfl (by decide) rfl rfl rfl hl.1 rfl (Nat.le_of_ble_eq_true rfl) ⟨Nat.zero_le _, Nat.zero_le _⟩ (dk_at dkX2_readLine 13 rfl) (fun H locs w => ?_)
      refine lv_if_eq (tgt := 79) C.1 C.2.1 (dk_at dkX2_readLine 14 rfl) (by decide) (fun c39 => ?_) (fun c39 => ?_)
      · have hf := (if_pos c39).symm.trans hf
        refine lv_iconst (v := 0) C.1 C.2.1 (dk_at dkX2_readLine 20 rfl) (by decide) ?_
        cases hf
        exact fin _ _ _ _ _ (dk_at dkX2_readLine 21 rfl) rfl rfl w
      · have hf := (if_neg c39).symm.trans hf
        refine lv_aload_n C.1 C.2.1 (dk_at dkX2_readLine 15 rfl) rfl (lv_at hl 1 rfl) ?_
        obtain ⟨r40, r_41, hq42, hf⟩ := bd2_at hf
        refine r_rwi (As := []) (rest := []) (wr := wC g a_dr dr_37) (ws' := wR g a_r a_dr r_41 ++ wC g a_dr dr_37) C (kX2_readStop l g _ a_r a_dr r_36 r40 r_41 hq42) (cwV0 C (inr10 _ (List.mem_of_getElem? (i := 21) rfl)) mwX2_readStop hdX2_readStop ⟨Nat.le_of_ble_eq_true rfl, Nat.le_of_ble_eq_true rfl⟩) hK w hA [0, 1] [2, 3, 4, 5, 6, 7, 8, 9, 10, 11, 12] [11, 12, 0, 1, 2, 3, 4, 5, 6, 7, 8, 9, 10] (by decide) rfl rfl (by decide) (by decide) rfl (by decide) rfl rfl rfl hl.1 rfl (Nat.le_of_ble_eq_true rfl) ⟨Nat.zero_le _, Nat.zero_le _⟩ (dk_at dkX2_readLine 16 rfl) (fun H locs w => ?_)
        refine lv_if_eq (tgt := 79) C.1 C.2.1 (dk_at dkX2_readLine 17 rfl) (by decide) (fun c43 => ?_) (fun c43 => ?_)
        · have hf := (if_pos c43).symm.trans hf
          refine lv_iconst (v := 0) C.1 C.2.1 (dk_at dkX2_readLine 20 rfl) (by decide) ?_
          cases hf
          exact fin _ _ _ _ _ (dk_at dkX2_readLine 21 rfl) rfl rfl w
        · have hf := (if_neg c43).symm.trans hf
          refine lv_iconst (v := 1) C.1 C.2.1 (dk_at dkX2_readLine 18 rfl) (by decide) ?_
          refine lv_goto (tgt := 80) C.1 C.2.1 (dk_at dkX2_readLine 19 rfl) (by decide) ?_
          cases hf
          exact fin _ _ _ _ _ (dk_at dkX2_readLine 21 rfl) rfl rfl w
    have hf := (if_neg c34).symm.trans hf
    by_cases c44 : y1 = 4
    · have hf := (if_pos c44).symm.trans hf
      refine lv_tableIn (tgt := 81) C.1 C.2.1 (dk_at dkX2_readLine 10 rfl) (by rw [c44]; decide) (by rw [c44]; decide) (by rw [c44]; rfl) (by decide) ?_
      refine lv_aload_n C.1 C.2.1 (dk_at dkX2_readLine 22 rfl) rfl (lv_at hl 1 rfl) ?_
      obtain ⟨r45, r_46, dr_47, hq48, hf⟩ := bd3_at hf
      refine r_rwi (As := []) (rest := []) (wr := []) (ws' := wR g a_r a_dr r_46 ++ wC g a_dr dr_47) C (kX2_readWall l g _ a_r a_dr r dr r45 r_46 dr_47 hq48) (cwV0 C (inr11 _ (List.mem_of_getElem? (i := 1) rfl)) mwX2_readWall hdX2_readWall ⟨Nat.le_of_ble_eq_true rfl, Nat.le_of_ble_eq_true rfl⟩) hK w hA [0, 1, 2, 3, 4, 5, 6, 7, 8, 9, 10, 11, 12] [] [0, 1, 2, 3, 4, 5, 6, 7, 8, 9, 10, 11, 12] (by decide) rfl rfl (by decide) (by decide) rfl (by decide) rfl rfl rfl hl.1 rfl (Nat.le_of_ble_eq_true rfl) ⟨Nat.zero_le _, Nat.zero_le _⟩ (dk_at dkX2_readLine 23 rfl) (fun H locs w => ?_)
      refine lv_if_eq (tgt := 99) C.1 C.2.1 (dk_at dkX2_readLine 24 rfl) (by decide) (fun c49 => ?_) (fun c49 => ?_)
      · have hf := (if_pos c49).symm.trans hf
        refine lv_iconst (v := 0) C.1 C.2.1 (dk_at dkX2_readLine 30 rfl) (by decide) ?_
        cases hf
        exact fin _ _ _ _ _ (dk_at dkX2_readLine 31 rfl) rfl rfl w
      · have hf := (if_neg c49).symm.trans hf
        refine lv_aload_n C.1 C.2.1 (dk_at dkX2_readLine 25 rfl) rfl (lv_at hl 1 rfl) ?_
        obtain ⟨r50, r_51, hq52, hf⟩ := bd2_at hf
        refine r_rwi (As := []) (rest := []) (wr := wC g a_dr dr_47) (ws' := wR g a_r a_dr r_51 ++ wC g a_dr dr_47) C (kX2_readStop l g _ a_r a_dr r_46 r50 r_51 hq52) (cwV0 C (inr10 _ (List.mem_of_getElem? (i := 21) rfl)) mwX2_readStop hdX2_readStop ⟨Nat.le_of_ble_eq_true rfl, Nat.le_of_ble_eq_true rfl⟩) hK w hA [0, 1] [2, 3, 4, 5, 6, 7, 8, 9, 10, 11, 12] [11, 12, 0, 1, 2, 3, 4, 5, 6, 7, 8, 9, 10] (by decide) rfl rfl (by decide) (by decide) rfl (by decide) rfl rfl rfl hl.1 rfl (Nat.le_of_ble_eq_true rfl) ⟨Nat.zero_le _, Nat.zero_le _⟩ (dk_at dkX2_readLine 26 rfl) (fun H locs w => ?_)
        refine lv_if_eq (tgt := 99) C.1 C.2.1 (dk_at dkX2_readLine 27 rfl) (by decide) (fun c53 => ?_) (fun c53 => ?_)
        · have hf := (if_pos c53).symm.trans hf
          refine lv_iconst (v := 0) C.1 C.2.1 (dk_at dkX2_readLine 30 rfl) (by decide) ?_
          cases hf
          exact fin _ _ _ _ _ (dk_at dkX2_readLine 31 rfl) rfl rfl w
        · have hf := (if_neg c53).symm.trans hf
          refine lv_iconst (v := 1) C.1 C.2.1 (dk_at dkX2_readLine 28 rfl) (by decide) ?_
          refine lv_goto (tgt := 100) C.1 C.2.1 (dk_at dkX2_readLine 29 rfl) (by decide) ?_
          cases hf
          exact fin _ _ _ _ _ (dk_at dkX2_readLine 31 rfl) rfl rfl w
    have hf := (if_neg c44).symm.trans hf
    by_cases c54 : y1 = 5
    · have hf := (if_pos c54).symm.trans hf
      refine lv_tableIn (tgt := 101) C.1 C.2.1 (dk_at dkX2_readLine 10 rfl) (by rw [c54]; decide) (by rw [c54]; decide) (by rw [c54]; rfl) (by decide) ?_
      refine lv_aload_n C.1 C.2.1 (dk_at dkX2_readLine 32 rfl) rfl (lv_at hl 1 rfl) ?_
      obtain ⟨r55, r_56, dr_57, hq58, hf⟩ := bd3_at hf
      refine r_rwi (As := []) (rest := []) (wr := []) (ws' := wR g a_r a_dr r_56 ++ wC g a_dr dr_57) C (kX2_readWind l g _ a_r a_dr r dr r55 r_56 dr_57 hq58) (cwV0 C (inr11 _ (List.mem_of_getElem? (i := 19) rfl)) mwX2_readWind hdX2_readWind ⟨Nat.le_of_ble_eq_true rfl, Nat.le_of_ble_eq_true rfl⟩) hK w hA [0, 1, 2, 3, 4, 5, 6, 7, 8, 9, 10, 11, 12] [] [0, 1, 2, 3, 4, 5, 6, 7, 8, 9, 10, 11, 12] (by decide) rfl rfl (by decide) (by decide) rfl (by decide) rfl rfl rfl hl.1 rfl (Nat.le_of_ble_eq_true rfl) ⟨Nat.zero_le _, Nat.zero_le _⟩ (dk_at dkX2_readLine 33 rfl) (fun H locs w => ?_)
      refine lv_if_eq (tgt := 119) C.1 C.2.1 (dk_at dkX2_readLine 34 rfl) (by decide) (fun c59 => ?_) (fun c59 => ?_)
      · have hf := (if_pos c59).symm.trans hf
        refine lv_iconst (v := 0) C.1 C.2.1 (dk_at dkX2_readLine 40 rfl) (by decide) ?_
        cases hf
        exact fin _ _ _ _ _ (dk_at dkX2_readLine 41 rfl) rfl rfl w
      · have hf := (if_neg c59).symm.trans hf
        refine lv_aload_n C.1 C.2.1 (dk_at dkX2_readLine 35 rfl) rfl (lv_at hl 1 rfl) ?_
        obtain ⟨r60, r_61, hq62, hf⟩ := bd2_at hf
        refine r_rwi (As := []) (rest := []) (wr := wC g a_dr dr_57) (ws' := wR g a_r a_dr r_61 ++ wC g a_dr dr_57) C (kX2_readStop l g _ a_r a_dr r_56 r60 r_61 hq62) (cwV0 C (inr10 _ (List.mem_of_getElem? (i := 21) rfl)) mwX2_readStop hdX2_readStop ⟨Nat.le_of_ble_eq_true rfl, Nat.le_of_ble_eq_true rfl⟩) hK w hA [0, 1] [2, 3, 4, 5, 6, 7, 8, 9, 10, 11, 12] [11, 12, 0, 1, 2, 3, 4, 5, 6, 7, 8, 9, 10] (by decide) rfl rfl (by decide) (by decide) rfl (by decide) rfl rfl rfl hl.1 rfl (Nat.le_of_ble_eq_true rfl) ⟨Nat.zero_le _, Nat.zero_le _⟩ (dk_at dkX2_readLine 36 rfl) (fun H locs w => ?_)
        refine lv_if_eq (tgt := 119) C.1 C.2.1 (dk_at dkX2_readLine 37 rfl) (by decide) (fun c63 => ?_) (fun c63 => ?_)
        · have hf := (if_pos c63).symm.trans hf
          refine lv_iconst (v := 0) C.1 C.2.1 (dk_at dkX2_readLine 40 rfl) (by decide) ?_
          cases hf
          exact fin _ _ _ _ _ (dk_at dkX2_readLine 41 rfl) rfl rfl w
        · have hf := (if_neg c63).symm.trans hf
          refine lv_iconst (v := 1) C.1 C.2.1 (dk_at dkX2_readLine 38 rfl) (by decide) ?_
          refine lv_goto (tgt := 120) C.1 C.2.1 (dk_at dkX2_readLine 39 rfl) (by decide) ?_
          cases hf
          exact fin _ _ _ _ _ (dk_at dkX2_readLine 41 rfl) rfl rfl w
    have hf := (if_neg c54).symm.trans hf
    by_cases c64 : y1 = 6
    · have hf := (if_pos c64).symm.trans hf
      refine lv_tableIn (tgt := 121) C.1 C.2.1 (dk_at dkX2_readLine 10 rfl) (by rw [c64]; decide) (by rw [c64]; decide) (by rw [c64]; rfl) (by decide) ?_
      refine lv_aload_n C.1 C.2.1 (dk_at dkX2_readLine 42 rfl) rfl (lv_at hl 1 rfl) ?_
      obtain ⟨r65, r_66, dr_67, hq68, hf⟩ := bd3_at hf
      refine r_rwi (As := []) (rest := []) (wr := []) (ws' := wR g a_r a_dr r_66 ++ wC g a_dr dr_67) C (kX2_readHearer l g _ a_r a_dr r dr r65 r_66 dr_67 hq68) (cwV0 C (inr12 _ (List.mem_of_getElem? (i := 0) rfl)) mwX2_readHearer hdX2_readHearer ⟨Nat.le_of_ble_eq_true rfl, Nat.le_of_ble_eq_true rfl⟩) hK w hA [0, 1, 2, 3, 4, 5, 6, 7, 8, 9, 10, 11, 12] [] [0, 1, 2, 3, 4, 5, 6, 7, 8, 9, 10, 11, 12] (by decide) rfl rfl (by decide) (by decide) rfl (by decide) rfl rfl rfl hl.1 rfl (Nat.le_of_ble_eq_true rfl) ⟨Nat.zero_le _, Nat.zero_le _⟩ (dk_at dkX2_readLine 43 rfl) (fun H locs w => ?_)
      refine lv_if_eq (tgt := 139) C.1 C.2.1 (dk_at dkX2_readLine 44 rfl) (by decide) (fun c69 => ?_) (fun c69 => ?_)
      · have hf := (if_pos c69).symm.trans hf
        refine lv_iconst (v := 0) C.1 C.2.1 (dk_at dkX2_readLine 50 rfl) (by decide) ?_
        cases hf
        exact fin _ _ _ _ _ (dk_at dkX2_readLine 51 rfl) rfl rfl w
      · have hf := (if_neg c69).symm.trans hf
        refine lv_aload_n C.1 C.2.1 (dk_at dkX2_readLine 45 rfl) rfl (lv_at hl 1 rfl) ?_
        obtain ⟨r70, r_71, hq72, hf⟩ := bd2_at hf
        refine r_rwi (As := []) (rest := []) (wr := wC g a_dr dr_67) (ws' := wR g a_r a_dr r_71 ++ wC g a_dr dr_67) C (kX2_readStop l g _ a_r a_dr r_66 r70 r_71 hq72) (cwV0 C (inr10 _ (List.mem_of_getElem? (i := 21) rfl)) mwX2_readStop hdX2_readStop ⟨Nat.le_of_ble_eq_true rfl, Nat.le_of_ble_eq_true rfl⟩) hK w hA [0, 1] [2, 3, 4, 5, 6, 7, 8, 9, 10, 11, 12] [11, 12, 0, 1, 2, 3, 4, 5, 6, 7, 8, 9, 10] (by decide) rfl rfl (by decide) (by decide) rfl (by decide) rfl rfl rfl hl.1 rfl (Nat.le_of_ble_eq_true rfl) ⟨Nat.zero_le _, Nat.zero_le _⟩ (dk_at dkX2_readLine 46 rfl) (fun H locs w => ?_)
        refine lv_if_eq (tgt := 139) C.1 C.2.1 (dk_at dkX2_readLine 47 rfl) (by decide) (fun c73 => ?_) (fun c73 => ?_)
        · have hf := (if_pos c73).symm.trans hf
          refine lv_iconst (v := 0) C.1 C.2.1 (dk_at dkX2_readLine 50 rfl) (by decide) ?_
          cases hf
          exact fin _ _ _ _ _ (dk_at dkX2_readLine 51 rfl) rfl rfl w
        · have hf := (if_neg c73).symm.trans hf
          refine lv_iconst (v := 1) C.1 C.2.1 (dk_at dkX2_readLine 48 rfl) (by decide) ?_
          refine lv_goto (tgt := 140) C.1 C.2.1 (dk_at dkX2_readLine 49 rfl) (by decide) ?_
          cases hf
          exact fin _ _ _ _ _ (dk_at dkX2_readLine 51 rfl) rfl rfl w
    have hf := (if_neg c64).symm.trans hf
    have c4n : y1.toInt ≠ 0 := fun q => c4 (by rw [← Int32.ofInt_toInt y1, q]; rfl)
    have c14n : y1.toInt ≠ 1 := fun q => c14 (by rw [← Int32.ofInt_toInt y1, q]; rfl)
    have c24n : y1.toInt ≠ 2 := fun q => c24 (by rw [← Int32.ofInt_toInt y1, q]; rfl)
    have c34n : y1.toInt ≠ 3 := fun q => c34 (by rw [← Int32.ofInt_toInt y1, q]; rfl)
    have c44n : y1.toInt ≠ 4 := fun q => c44 (by rw [← Int32.ofInt_toInt y1, q]; rfl)
    have c54n : y1.toInt ≠ 5 := fun q => c54 (by rw [← Int32.ofInt_toInt y1, q]; rfl)
    have c64n : y1.toInt ≠ 6 := fun q => c64 (by rw [← Int32.ofInt_toInt y1, q]; rfl)
    refine lv_tableOut (tgt := 141) C.1 C.2.1 (dk_at dkX2_readLine 10 rfl) (by omega) (by decide) ?_
    refine lv_aload_n C.1 C.2.1 (dk_at dkX2_readLine 52 rfl) rfl (lv_at hl 1 rfl) ?_
    refine lv_iconst (v := 2) C.1 C.2.1 (dk_at dkX2_readLine 53 rfl) (by decide) ?_
    obtain ⟨r74, r_75, hq76, hf⟩ := bd2_at hf
    refine r_rwi (As := [.int 2]) (rest := []) (wr := wC g a_dr dr) (ws' := wR g a_r a_dr r_75 ++ wC g a_dr dr) C (kX2_flawed l g _ a_r a_dr r 2 r74 r_75 hq76) (cwV0 C (inr7 _ (List.mem_of_getElem? (i := 8) rfl)) mwX2_flawed hdX2_flawed ⟨Nat.le_of_ble_eq_true rfl, Nat.le_of_ble_eq_true rfl⟩) hK w hA [0, 1] [2, 3, 4, 5, 6, 7, 8, 9, 10, 11, 12] [11, 12, 0, 1, 2, 3, 4, 5, 6, 7, 8, 9, 10] (by decide) rfl rfl (by decide) (by decide) rfl (by decide) rfl rfl rfl hl.1 rfl (Nat.le_of_ble_eq_true rfl) ⟨Nat.zero_le _, Nat.zero_le _⟩ (dk_at dkX2_readLine 54 rfl) (fun H locs w => ?_)
    obtain ⟨h77, hf⟩ := gb_at hf
    cases hf
    exact fin _ _ _ _ _ (dk_at dkX2_readLine 55 rfl) h77 rfl w
  clear hf
  have hf := hq2
  refine lv_icmp_ne (tgt := 15) C.1 C.2.1 (dk_at dkX2_readLine 3 rfl) (by decide) (fun c78 => ?_) (fun c78 => ?_)
  · have hf := (if_neg c78).symm.trans hf
    refine lv_bipush (v := 7) C.1 C.2.1 (dk_at dkX2_readLine 7 rfl) (by decide) ?_
    cases hf
    exact J3 _ _ _ w (lv_sub hl [0] rfl)
  · have hf := (if_pos c78).symm.trans hf
    refine lv_aload_n C.1 C.2.1 (dk_at dkX2_readLine 4 rfl) rfl (lv_at hl 0 rfl) ?_
    obtain ⟨r79, hq80, hf⟩ := bd1_at hf
    refine r_pxV (As := []) (rest := []) C (kX2_lineNamed l g sg a_r a_dr r r79 hq80) (cwV0 C (inr7 _ (List.mem_of_getElem? (i := 16) rfl)) mwX2_lineNamed hdX2_lineNamed ⟨Nat.le_of_ble_eq_true rfl, Nat.le_of_ble_eq_true rfl⟩) ROs_blind (va_recv (ci := 2) (q0 := 0) hK (w.1.sub [0, 1] rfl) rfl rfl) (fun U hU hW => ⟨⟨by rw [hU]; exact (w.1.sub [0, 1] rfl), va_K.moved hW.alike hK⟩, SE_ro hSE w U hU hW⟩) rfl hl.1 rfl (Nat.le_of_ble_eq_true rfl) ⟨Nat.zero_le _, Nat.zero_le _⟩ (dk_at dkX2_readLine 5 rfl) ?_
    refine lv_goto (tgt := 17) C.1 C.2.1 (dk_at dkX2_readLine 6 rfl) (by decide) ?_
    cases hf
    exact J3 _ _ _ w (lv_sub hl [0] rfl)
-- X2.readLines
abbrev tbX2_readLines : List (Nat × Instr × Nat) := [(0, .aload_n 0, 1), (1, .iconst 0, 1), (2, .putfield 22, 3), (5, .aload_n 0, 1), (6, .iconst 0, 1), (7, .putfield 26, 3), (10, .aload_n 0, 1), (11, .iconst 0, 1), (12, .putfield 29, 3), (15, .aload_n 0, 1), (16, .iconst 0, 1), (17, .putfield 32, 3), (20, .aload_n 0, 1), (21, .getfield 18, 3), (24, .invokevirtual 35, 3), (27, .iconst 0, 1), (28, .istore_n 1, 1), (29, .iload_n 1, 1), (30, .sipush 160, 3), (33, .if_icmp .gt 30, 3), (36, .aload_n 0, 1), (37, .invokevirtual 38, 3), (40, .ifCond .eq 23, 3), (43, .aload_n 0, 1), (44, .getfield 42, 3), (47, .ifCond .eq 16, 3), (50, .aload_n 0, 1), (51, .invokevirtual 45, 3), (54, .ifCond .eq 9, 3), (57, .iinc 1 1, 3), (60, .goto (-31), 3), (63, .iload_n 1, 1), (64, .ireturn, 1)]
theorem dkX2_readLines : dk cX2_readLines tbX2_readLines := dk_of (by decide +kernel)
abbrev cdX2_readLines : Cond := Cond.code yX2_readLines cX2_readLines 2 (some .int)
abbrev rmX2_readLines : Room := { frames := 7, cells := 0, slots := 0, locals := 149 }
theorem mwX2_readLines : Cond.instanceMethod yX2_readLines ∈ wsL_law ∧ Cond.selects RX2 yX2_readLines yX2_readLines ∈ wsL_law ∧ Cond.initialized RX2 ∈ wsL_law ∧ cdX2_readLines ∈ wsL_law := ⟨inr6 _ (List.mem_of_getElem? (i := 16) rfl), inr6 _ (List.mem_of_getElem? (i := 17) rfl), inr1 _ (List.mem_of_getElem? (i := 14) rfl), inr6 _ (List.mem_of_getElem? (i := 18) rfl)⟩
theorem hdX2_readLines : yX2_readLines.cls = RX2 ∧ yX2_readLines.cls ≠ "java/lang/invoke/MethodHandle" ∧ yX2_readLines.cls ≠ "java/lang/invoke/VarHandle" ∧ (parseMethodDescriptor yX2_readLines.desc).map (fun d => d.parameters.length) = some 0 := by decide +kernel
set_option maxHeartbeats 4000000 in
set_option maxRecDepth 100000 in
theorem kX2_readLines (l : Launch) (g : Gx) (sg : SG) (sz : Nat) (a_r a_dr : Nat → Nat) (r : RT) (dr : CT) (res : Int32) (r_o : RT) (dr_o : CT) (hf : fX2_readLines r dr = some (res, r_o, dr_o)) : Met l yX2_readLines (cdX2_readLines :: wsL_law) rmX2_readLines (va_Pc [.ref (a_r 0)] (RWs g sz (wR g a_r a_dr r ++ wC g a_dr dr) sg)) (va_Qi (fun x (_ : Unit) => x = res) (fun _ => RWq g (va_A (wR g a_r a_dr r ++ wC g a_dr dr) sz) (wR g a_r a_dr r_o ++ wC g a_dr dr_o)) (va_A (wR g a_r a_dr r ++ wC g a_dr dr) sz)) 0 0 (va_A (wR g a_r a_dr r ++ wC g a_dr dr) sz) := by
  refine Met_rwiS (cc := cX2_readLines) (maxL := 2) (by decide) rfl (Nat.le_of_ble_eq_true rfl) ?_
  intro P E Z Mi AR BE ME CO A Q C hK hA fin w hSE ls hl
  have hl : lv_has ls 2 [(0, .ref (a_r 0))] := hl
  unfold fX2_readLines at hf
  refine lv_aload_n C.1 C.2.1 (dk_at dkX2_readLines 0 rfl) rfl (lv_at hl 0 rfl) ?_
  refine lv_iconst (v := 0) C.1 C.2.1 (dk_at dkX2_readLines 1 rfl) (by decide) ?_
  refine r_put (v := .int 0) C hK w (fun w h => List.mem_cons_of_mem _ (inlX2 w h)) tyX2 tyX2_ok nmX2 0 rfl rfl 5 (by decide) (List.mem_cons_of_mem _ (inr6 _ (List.mem_of_getElem? (i := 19) rfl))) rfl rfl rfl (Nat.le_of_ble_eq_true rfl) (dk_at dkX2_readLines 2 rfl) (fun H locs w => ?_)
  obtain ⟨r_1, er_1⟩ : ∃ z : RT, z = rAt' r 0 := ⟨_, rfl⟩
  have hf := nm_at er_1 hf
  have w : Wd g A Z.heap (wR g a_r a_dr r_1 ++ wC g a_dr dr) H locs := by rw [er_1]; exact w
  refine lv_aload_n C.1 C.2.1 (dk_at dkX2_readLines 3 rfl) rfl (lv_at hl 0 rfl) ?_
  refine lv_iconst (v := 0) C.1 C.2.1 (dk_at dkX2_readLines 4 rfl) (by decide) ?_
  refine r_put (v := .int 0) C hK w (fun w h => List.mem_cons_of_mem _ (inlX2 w h)) tyX2 tyX2_ok nmX2 0 rfl rfl 3 (by decide) (List.mem_cons_of_mem _ (inr6 _ (List.mem_of_getElem? (i := 20) rfl))) rfl rfl rfl (Nat.le_of_ble_eq_true rfl) (dk_at dkX2_readLines 5 rfl) (fun H locs w => ?_)
  obtain ⟨r_2, er_2⟩ : ∃ z : RT, z = rFl' r_1 0 := ⟨_, rfl⟩
  have hf := nm_at er_2 hf
  have w : Wd g A Z.heap (wR g a_r a_dr r_2 ++ wC g a_dr dr) H locs := by rw [er_2]; exact w
  refine lv_aload_n C.1 C.2.1 (dk_at dkX2_readLines 6 rfl) rfl (lv_at hl 0 rfl) ?_
  refine lv_iconst (v := 0) C.1 C.2.1 (dk_at dkX2_readLines 7 rfl) (by decide) ?_
  refine r_put (v := .int 0) C hK w (fun w h => List.mem_cons_of_mem _ (inlX2 w h)) tyX2 tyX2_ok nmX2 0 rfl rfl 4 (by decide) (List.mem_cons_of_mem _ (inr6 _ (List.mem_of_getElem? (i := 21) rfl))) rfl rfl rfl (Nat.le_of_ble_eq_true rfl) (dk_at dkX2_readLines 8 rfl) (fun H locs w => ?_)
  obtain ⟨r_3, er_3⟩ : ∃ z : RT, z = rPl' r_2 0 := ⟨_, rfl⟩
  have hf := nm_at er_3 hf
  have w : Wd g A Z.heap (wR g a_r a_dr r_3 ++ wC g a_dr dr) H locs := by rw [er_3]; exact w
  refine lv_aload_n C.1 C.2.1 (dk_at dkX2_readLines 9 rfl) rfl (lv_at hl 0 rfl) ?_
  refine lv_iconst (v := 0) C.1 C.2.1 (dk_at dkX2_readLines 10 rfl) (by decide) ?_
  refine r_put (v := .int 0) C hK w (fun w h => List.mem_cons_of_mem _ (inlX2 w h)) tyX2 tyX2_ok nmX2 0 rfl rfl 9 (by decide) (List.mem_cons_of_mem _ (inr6 _ (List.mem_of_getElem? (i := 22) rfl))) rfl rfl rfl (Nat.le_of_ble_eq_true rfl) (dk_at dkX2_readLines 11 rfl) (fun H locs w => ?_)
  obtain ⟨r_4, er_4⟩ : ∃ z : RT, z = rTh' r_3 0 := ⟨_, rfl⟩
  have hf := nm_at er_4 hf
  have w : Wd g A Z.heap (wR g a_r a_dr r_4 ++ wC g a_dr dr) H locs := by rw [er_4]; exact w
  refine lv_aload_n C.1 C.2.1 (dk_at dkX2_readLines 12 rfl) rfl (lv_at hl 0 rfl) ?_
  refine r_get (v := .ref (a_dr 0)) C hK w.1 (fun w h => List.mem_cons_of_mem _ (inlX2 w h)) 0 rfl rfl 2 (by decide) (List.mem_cons_of_mem _ (inr2 _ (List.mem_of_getElem? (i := 16) rfl))) rfl (dk_at dkX2_readLines 13 rfl) ?_
  obtain ⟨dr_5, hq6, hf⟩ := bd1_at hf
  refine r_rwv (As := []) (rest := []) (wr := wR g a_r a_dr r_4) (ws' := wR g a_r a_dr r_4 ++ wC g a_dr dr_5) C (kX0_clear l g _ a_dr dr dr_5 hq6) (cwV0 C (inr7 _ (List.mem_of_getElem? (i := 0) rfl)) mwX0_clear hdX0_clear ⟨Nat.le_of_ble_eq_true rfl, Nat.le_of_ble_eq_true rfl⟩) hK w hA [2, 3, 4, 5, 6, 7, 8, 9, 10, 11, 12] [0, 1] [0, 1, 2, 3, 4, 5, 6, 7, 8, 9, 10, 11, 12] (by decide) rfl rfl (by decide) (by decide) rfl (by decide) rfl rfl rfl hl.1 rfl (Nat.le_of_ble_eq_true rfl) ⟨Nat.zero_le _, Nat.zero_le _⟩ (dk_at dkX2_readLines 14 rfl) (fun H locs w => ?_)
  refine lv_iconst (v := 0) C.1 C.2.1 (dk_at dkX2_readLines 15 rfl) (by decide) ?_
  refine lv_istore_n (lv' := [(1, .int 0), (0, .ref (a_r 0))]) C.1 C.2.1 (dk_at dkX2_readLines 16 rfl) rfl hl (by decide) rfl (fun ls hl => ?_)
  have L10 : ∀ (K : Int32 → RT → CT → Option (Int32 × RT × CT)), (∀ (v7 : Int32) (r_8 : RT) (dr_9 : CT) (H : Heap) (locs : List Loc) (ls : Array Slot), Wd g A Z.heap (wR g a_r a_dr r_8 ++ wC g a_dr dr_9) H locs → lv_has ls 2 [(1, .int v7)] → K v7 r_8 dr_9 = some (res, r_o, dr_o) → W P l E rmX2_readLines Z Mi AR BE ME CO H locs 0 0 Q (F0 Mi 63 ls [])) → ∀ (n : Nat), ∀ (v7 : Int32) (r_8 : RT) (dr_9 : CT) (H : Heap) (locs : List Loc) (ls : Array Slot), Wd g A Z.heap (wR g a_r a_dr r_8 ++ wC g a_dr dr_9) H locs → lv_has ls 2 [(1, .int v7), (0, .ref (a_r 0))] → fX2_readLines_L29 K n v7 r_8 dr_9 = some (res, r_o, dr_o) → W P l E rmX2_readLines Z Mi AR BE ME CO H locs 0 0 Q (F0 Mi 29 ls []) := by
    intro K hKe n
    induction n with
    | zero => intro v7 r_8 dr_9 H locs ls w hl hf; cases hf
    | succ n ih =>
      intro v7 r_8 dr_9 H locs ls w hl hf
      rw [fX2_readLines_L29] at hf
      refine lv_iload_n C.1 C.2.1 (dk_at dkX2_readLines 17 rfl) rfl (lv_at hl 0 rfl) ?_
      refine lv_sipush (v := 160) C.1 C.2.1 (dk_at dkX2_readLines 18 rfl) (by decide) ?_
      refine lv_icmp_gt (tgt := 63) C.1 C.2.1 (dk_at dkX2_readLines 19 rfl) (by decide) (fun c11 => ?_) (fun c11 => ?_)
      · have hf := (if_pos c11).symm.trans hf
        exact hKe v7 r_8 dr_9 _ _ _ w (lv_sub hl [0] rfl) hf
      · have hf := (if_neg c11).symm.trans hf
        refine lv_aload_n C.1 C.2.1 (dk_at dkX2_readLines 20 rfl) rfl (lv_at hl 1 rfl) ?_
        obtain ⟨r12, r_13, hq14, hf⟩ := bd2_at hf
        refine r_rwi (As := []) (rest := []) (wr := wC g a_dr dr_9) (ws' := wR g a_r a_dr r_13 ++ wC g a_dr dr_9) C (kX2_next l g _ a_r a_dr r_8 r12 r_13 hq14) (cwV0 C (inr7 _ (List.mem_of_getElem? (i := 1) rfl)) mwX2_next hdX2_next ⟨Nat.le_of_ble_eq_true rfl, Nat.le_of_ble_eq_true rfl⟩) hK w hA [0, 1] [2, 3, 4, 5, 6, 7, 8, 9, 10, 11, 12] [11, 12, 0, 1, 2, 3, 4, 5, 6, 7, 8, 9, 10] (by decide) rfl rfl (by decide) (by decide) rfl (by decide) rfl rfl rfl hl.1 rfl (Nat.le_of_ble_eq_true rfl) ⟨Nat.zero_le _, Nat.zero_le _⟩ (dk_at dkX2_readLines 21 rfl) (fun H locs w => ?_)
        refine lv_if_eq (tgt := 63) C.1 C.2.1 (dk_at dkX2_readLines 22 rfl) (by decide) (fun c15 => ?_) (fun c15 => ?_)
        · have hf := (if_pos c15).symm.trans hf
          exact hKe v7 r_13 dr_9 _ _ _ w (lv_sub hl [0] rfl) hf
        · have hf := (if_neg c15).symm.trans hf
          refine lv_aload_n C.1 C.2.1 (dk_at dkX2_readLines 23 rfl) rfl (lv_at hl 1 rfl) ?_
          refine r_get (v := .int (rTo r_13)) C hK w.1 (fun w h => List.mem_cons_of_mem _ (inlX2 w h)) 0 rfl rfl 6 (by decide) (List.mem_cons_of_mem _ (inr6 _ (List.mem_of_getElem? (i := 23) rfl))) rfl (dk_at dkX2_readLines 24 rfl) ?_
          refine lv_if_eq (tgt := 63) C.1 C.2.1 (dk_at dkX2_readLines 25 rfl) (by decide) (fun c16 => ?_) (fun c16 => ?_)
          · have hf := (if_pos c16).symm.trans hf
            exact hKe v7 r_13 dr_9 _ _ _ w (lv_sub hl [0] rfl) hf
          · have hf := (if_neg c16).symm.trans hf
            refine lv_aload_n C.1 C.2.1 (dk_at dkX2_readLines 26 rfl) rfl (lv_at hl 1 rfl) ?_
            obtain ⟨r17, r_18, dr_19, hq20, hf⟩ := bd3_at hf
            refine r_rwiS (As := []) (rest := []) (wr := []) (ws' := wR g a_r a_dr r_18 ++ wC g a_dr dr_19) C (kX2_readLine l g sg _ a_r a_dr r_13 dr_9 r17 r_18 dr_19 hq20) (cwV0 C (inr7 _ (List.mem_of_getElem? (i := 12) rfl)) mwX2_readLine hdX2_readLine ⟨Nat.le_of_ble_eq_true rfl, Nat.le_of_ble_eq_true rfl⟩) hK w hSE hA [0, 1, 2, 3, 4, 5, 6, 7, 8, 9, 10, 11, 12] [] [0, 1, 2, 3, 4, 5, 6, 7, 8, 9, 10, 11, 12] (by decide) rfl rfl (by decide) (by decide) rfl (by decide) rfl rfl rfl hl.1 rfl (Nat.le_of_ble_eq_true rfl) ⟨Nat.zero_le _, Nat.zero_le _⟩ (dk_at dkX2_readLines 27 rfl) (fun H locs w => ?_)
            refine lv_if_eq (tgt := 63) C.1 C.2.1 (dk_at dkX2_readLines 28 rfl) (by decide) (fun c21 => ?_) (fun c21 => ?_)
            · have hf := (if_pos c21).symm.trans hf
              exact hKe v7 r_18 dr_19 _ _ _ w (lv_sub hl [0] rfl) hf
            · have hf := (if_neg c21).symm.trans hf
              obtain ⟨x22, ex22⟩ : ∃ z : Int32, z = v7 + 1 := ⟨_, rfl⟩
              have hf := nm_at ex22 hf
              refine lv_iinc (v := x22) (lv' := [(1, .int x22), (0, .ref (a_r 0))]) C.1 C.2.1 (dk_at dkX2_readLines 29 rfl) hl (k := 0) rfl (by rw [ex22]; rfl) (by decide) rfl (fun ls hl => ?_)
              refine lv_goto (tgt := 29) C.1 C.2.1 (dk_at dkX2_readLines 30 rfl) (by decide) ?_
              exact ih x22 r_18 dr_19 _ _ _ w (lv_sub hl [0, 1] rfl) hf
  refine L10 _ ?_ 4096 0 r_4 dr_5 _ _ _ w (lv_sub hl [0, 1] rfl) hf
  clear hf
  intro v7 r_8 dr_9 H locs ls w hl hf
  refine lv_iload_n C.1 C.2.1 (dk_at dkX2_readLines 31 rfl) rfl (lv_at hl 0 rfl) ?_
  cases hf
  exact fin _ _ _ _ _ (dk_at dkX2_readLines 32 rfl) rfl w
-- X5.text
abbrev tbX5_text : List (Nat × Instr × Nat) := [(0, .aload_n 0, 1), (1, .getfield 10, 3), (4, .invokevirtual 60, 3), (7, .istore_n 1, 1), (8, .aload_n 0, 1), (9, .getfield 10, 3), (12, .iconst 0, 1), (13, .putfield 52, 3), (16, .aload_n 0, 1), (17, .getfield 10, 3), (20, .getfield 64, 3), (23, .ifCond .eq 14, 3), (26, .bipush (-10), 2), (28, .aload_n 0, 1), (29, .getfield 10, 3), (32, .getfield 67, 3), (35, .isub, 1), (36, .ireturn, 1), (37, .aload_n 0, 1), (38, .getfield 19, 3), (41, .aload_n 0, 1), (42, .getfield 10, 3), (45, .getfield 70, 3), (48, .invokevirtual 73, 3), (51, .iconst 0, 1), (52, .istore_n 2, 1), (53, .iload_n 2, 1), (54, .iconst 2, 1), (55, .if_icmp .ge 16, 3), (58, .aload_n 0, 1), (59, .getfield 41, 3), (62, .iload_n 2, 1), (63, .iconst 0, 1), (64, .bastore, 1), (65, .iinc 2 1, 3), (68, .goto (-15), 3), (71, .iload_n 1, 1), (72, .ireturn, 1)]
theorem dkX5_text : dk cX5_text tbX5_text := dk_of (by decide +kernel)
abbrev cdX5_text : Cond := Cond.code yX5_text cX5_text 3 (some .int)
abbrev rmX5_text : Room := { frames := 8, cells := 0, slots := 0, locals := 170 }
theorem mwX5_text : Cond.instanceMethod yX5_text ∈ wsL_law ∧ Cond.selects RX5 yX5_text yX5_text ∈ wsL_law ∧ Cond.initialized RX5 ∈ wsL_law ∧ cdX5_text ∈ wsL_law := ⟨inr6 _ (List.mem_of_getElem? (i := 9) rfl), inr6 _ (List.mem_of_getElem? (i := 10) rfl), inr1 _ (List.mem_of_getElem? (i := 2) rfl), inr6 _ (List.mem_of_getElem? (i := 11) rfl)⟩
theorem hdX5_text : yX5_text.cls = RX5 ∧ yX5_text.cls ≠ "java/lang/invoke/MethodHandle" ∧ yX5_text.cls ≠ "java/lang/invoke/VarHandle" ∧ (parseMethodDescriptor yX5_text.desc).map (fun d => d.parameters.length) = some 0 := by decide +kernel
set_option maxHeartbeats 4000000 in
set_option maxRecDepth 100000 in
theorem kX5_text (l : Launch) (g : Gx) (sg : SG) (sz : Nat) (a_v a_rd a_nw a_tr a_da a_i0 a_i1 a_s0 a_s1 a_s2 a_s3 a_dr : Nat → Nat) (v : VT) (rd : RT) (dr : CT) (nw : CT) (res : Int32) (v_o : VT) (rd_o : RT) (dr_o : CT) (nw_o : CT) (hf : fX5_text v rd dr nw = some (res, v_o, rd_o, dr_o, nw_o)) : Met l yX5_text (cdX5_text :: wsL_law) rmX5_text (va_Pc [.ref (a_v 0)] (RWs g sz (wV g a_v a_rd a_nw a_tr a_da a_i0 a_i1 a_s0 a_s1 a_s2 a_s3 v ++ wR g a_rd a_dr rd ++ wC g a_dr dr ++ wC g a_nw nw) sg)) (va_Qi (fun x (_ : Unit) => x = res) (fun _ => RWq g (va_A (wV g a_v a_rd a_nw a_tr a_da a_i0 a_i1 a_s0 a_s1 a_s2 a_s3 v ++ wR g a_rd a_dr rd ++ wC g a_dr dr ++ wC g a_nw nw) sz) (wV g a_v a_rd a_nw a_tr a_da a_i0 a_i1 a_s0 a_s1 a_s2 a_s3 v_o ++ wR g a_rd a_dr rd_o ++ wC g a_dr dr_o ++ wC g a_nw nw_o)) (va_A (wV g a_v a_rd a_nw a_tr a_da a_i0 a_i1 a_s0 a_s1 a_s2 a_s3 v ++ wR g a_rd a_dr rd ++ wC g a_dr dr ++ wC g a_nw nw) sz)) 0 0 (va_A (wV g a_v a_rd a_nw a_tr a_da a_i0 a_i1 a_s0 a_s1 a_s2 a_s3 v ++ wR g a_rd a_dr rd ++ wC g a_dr dr ++ wC g a_nw nw) sz) := by
  refine Met_rwiS (cc := cX5_text) (maxL := 3) (by decide) rfl (Nat.le_of_ble_eq_true rfl) ?_
  intro P E Z Mi AR BE ME CO A Q C hK hA fin w hSE ls hl
  have hl : lv_has ls 3 [(0, .ref (a_v 0))] := hl
  unfold fX5_text at hf
  refine lv_aload_n C.1 C.2.1 (dk_at dkX5_text 0 rfl) rfl (lv_at hl 0 rfl) ?_
  refine r_get (v := .ref (a_rd 0)) C hK w.1 (fun w h => List.mem_cons_of_mem _ (inlX5 w h)) 0 rfl rfl 0 (by decide) (List.mem_cons_of_mem _ (inr1 _ (List.mem_of_getElem? (i := 15) rfl))) rfl (dk_at dkX5_text 1 rfl) ?_
  obtain ⟨r1, rd_2, dr_3, hq4, hf⟩ := bd3_at hf
  refine r_rwiS (As := []) (rest := []) (wr := wV g a_v a_rd a_nw a_tr a_da a_i0 a_i1 a_s0 a_s1 a_s2 a_s3 v ++ wC g a_nw nw) (ws' := wV g a_v a_rd a_nw a_tr a_da a_i0 a_i1 a_s0 a_s1 a_s2 a_s3 v ++ wR g a_rd a_dr rd_2 ++ wC g a_dr dr_3 ++ wC g a_nw nw) C (kX2_readLines l g sg _ a_rd a_dr rd dr r1 rd_2 dr_3 hq4) (cwV0 C (inr6 _ (List.mem_of_getElem? (i := 15) rfl)) mwX2_readLines hdX2_readLines ⟨Nat.le_of_ble_eq_true rfl, Nat.le_of_ble_eq_true rfl⟩) hK w hSE hA [5, 6, 7, 8, 9, 10, 11, 12, 13, 14, 15, 16, 17] [0, 1, 2, 3, 4, 18, 19, 20, 21, 22, 23, 24, 25, 26, 27, 28] [0, 1, 2, 3, 4, 16, 17, 18, 19, 20, 21, 22, 23, 24, 25, 26, 27, 28, 5, 6, 7, 8, 9, 10, 11, 12, 13, 14, 15] (by decide) rfl rfl (by decide) (by decide) rfl (by decide) rfl rfl rfl hl.1 rfl (Nat.le_of_ble_eq_true rfl) ⟨Nat.zero_le _, Nat.zero_le _⟩ (dk_at dkX5_text 2 rfl) (fun H locs w => ?_)
  refine lv_istore_n (lv' := [(1, .int r1), (0, .ref (a_v 0))]) C.1 C.2.1 (dk_at dkX5_text 3 rfl) rfl hl (by decide) rfl (fun ls hl => ?_)
  refine lv_aload_n C.1 C.2.1 (dk_at dkX5_text 4 rfl) rfl (lv_at hl 1 rfl) ?_
  refine r_get (v := .ref (a_rd 0)) C hK w.1 (fun w h => List.mem_cons_of_mem _ (inlX5 w h)) 0 rfl rfl 0 (by decide) (List.mem_cons_of_mem _ (inr1 _ (List.mem_of_getElem? (i := 15) rfl))) rfl (dk_at dkX5_text 5 rfl) ?_
  refine lv_iconst (v := 0) C.1 C.2.1 (dk_at dkX5_text 6 rfl) (by decide) ?_
  refine r_put (v := .int 0) C hK w (fun w h => List.mem_cons_of_mem _ (inlX2 w h)) tyX2 tyX2_ok nmX2 5 rfl rfl 1 (by decide) (List.mem_cons_of_mem _ (inr5 _ (List.mem_of_getElem? (i := 13) rfl))) rfl rfl rfl (Nat.le_of_ble_eq_true rfl) (dk_at dkX5_text 7 rfl) (fun H locs w => ?_)
  obtain ⟨rd_5, erd_5⟩ : ∃ z : RT, z = rSz' rd_2 0 := ⟨_, rfl⟩
  have hf := nm_at erd_5 hf
  have w : Wd g A Z.heap (wV g a_v a_rd a_nw a_tr a_da a_i0 a_i1 a_s0 a_s1 a_s2 a_s3 v ++ wR g a_rd a_dr rd_5 ++ wC g a_dr dr_3 ++ wC g a_nw nw) H locs := by rw [erd_5]; exact w
  refine lv_aload_n C.1 C.2.1 (dk_at dkX5_text 8 rfl) rfl (lv_at hl 1 rfl) ?_
  refine r_get (v := .ref (a_rd 0)) C hK w.1 (fun w h => List.mem_cons_of_mem _ (inlX5 w h)) 0 rfl rfl 0 (by decide) (List.mem_cons_of_mem _ (inr1 _ (List.mem_of_getElem? (i := 15) rfl))) rfl (dk_at dkX5_text 9 rfl) ?_
  refine r_get (v := .int (rFl rd_5)) C hK w.1 (fun w h => List.mem_cons_of_mem _ (inlX2 w h)) 5 rfl rfl 3 (by decide) (List.mem_cons_of_mem _ (inr6 _ (List.mem_of_getElem? (i := 12) rfl))) rfl (dk_at dkX5_text 10 rfl) ?_
  refine lv_if_eq (tgt := 37) C.1 C.2.1 (dk_at dkX5_text 11 rfl) (by decide) (fun c6 => ?_) (fun c6 => ?_)
  · have hf := (if_pos c6).symm.trans hf
    refine lv_aload_n C.1 C.2.1 (dk_at dkX5_text 18 rfl) rfl (lv_at hl 1 rfl) ?_
    refine r_get (v := .ref (a_nw 0)) C hK w.1 (fun w h => List.mem_cons_of_mem _ (inlX5 w h)) 0 rfl rfl 1 (by decide) (List.mem_cons_of_mem _ (inr1 _ (List.mem_of_getElem? (i := 19) rfl))) rfl (dk_at dkX5_text 19 rfl) ?_
    refine lv_aload_n C.1 C.2.1 (dk_at dkX5_text 20 rfl) rfl (lv_at hl 1 rfl) ?_
    refine r_get (v := .ref (a_rd 0)) C hK w.1 (fun w h => List.mem_cons_of_mem _ (inlX5 w h)) 0 rfl rfl 0 (by decide) (List.mem_cons_of_mem _ (inr1 _ (List.mem_of_getElem? (i := 15) rfl))) rfl (dk_at dkX5_text 21 rfl) ?_
    refine r_get (v := .ref (a_dr 0)) C hK w.1 (fun w h => List.mem_cons_of_mem _ (inlX2 w h)) 5 rfl rfl 2 (by decide) (List.mem_cons_of_mem _ (inr6 _ (List.mem_of_getElem? (i := 14) rfl))) rfl (dk_at dkX5_text 22 rfl) ?_
    obtain ⟨nw_7, hq8, hf⟩ := bd1_at hf
    refine r_rwv (As := [.ref (a_dr 0)]) (rest := []) (wr := wV g a_v a_rd a_nw a_tr a_da a_i0 a_i1 a_s0 a_s1 a_s2 a_s3 v ++ wR g a_rd a_dr rd_5) (ws' := wV g a_v a_rd a_nw a_tr a_da a_i0 a_i1 a_s0 a_s1 a_s2 a_s3 v ++ wR g a_rd a_dr rd_5 ++ wC g a_dr dr_3 ++ wC g a_nw nw_7) C (kX0_copyTo l g _ a_nw a_dr nw dr_3 nw_7 hq8) (cwV0 C (inr12 _ (List.mem_of_getElem? (i := 6) rfl)) mwX0_copyFrom hdX0_copyFrom ⟨Nat.le_of_ble_eq_true rfl, Nat.le_of_ble_eq_true rfl⟩) hK w hA [18, 19, 20, 21, 22, 23, 24, 25, 26, 27, 28, 7, 8, 9, 10, 11, 12, 13, 14, 15, 16, 17] [0, 1, 2, 3, 4, 5, 6] [0, 1, 2, 3, 4, 5, 6, 18, 19, 20, 21, 22, 23, 24, 25, 26, 27, 28, 7, 8, 9, 10, 11, 12, 13, 14, 15, 16, 17] (by decide) rfl rfl (by decide) (by decide) rfl (by decide) rfl rfl rfl hl.1 rfl (Nat.le_of_ble_eq_true rfl) ⟨Nat.zero_le _, Nat.zero_le _⟩ (dk_at dkX5_text 23 rfl) (fun H locs w => ?_)
    refine lv_iconst (v := 0) C.1 C.2.1 (dk_at dkX5_text 24 rfl) (by decide) ?_
    refine lv_istore_n (lv' := [(2, .int 0), (1, .int r1), (0, .ref (a_v 0))]) C.1 C.2.1 (dk_at dkX5_text 25 rfl) rfl hl (by decide) rfl (fun ls hl => ?_)
    have L11 : ∀ (K : Int32 → VT → Option (Int32 × VT × RT × CT × CT)), (∀ (v9 : Int32) (v_10 : VT) (H : Heap) (locs : List Loc) (ls : Array Slot), Wd g A Z.heap (wV g a_v a_rd a_nw a_tr a_da a_i0 a_i1 a_s0 a_s1 a_s2 a_s3 v_10 ++ wR g a_rd a_dr rd_5 ++ wC g a_dr dr_3 ++ wC g a_nw nw_7) H locs → lv_has ls 3 [(1, .int r1)] → K v9 v_10 = some (res, v_o, rd_o, dr_o, nw_o) → W P l E rmX5_text Z Mi AR BE ME CO H locs 0 0 Q (F0 Mi 71 ls [])) → ∀ (n : Nat), ∀ (v9 : Int32) (v_10 : VT) (H : Heap) (locs : List Loc) (ls : Array Slot), Wd g A Z.heap (wV g a_v a_rd a_nw a_tr a_da a_i0 a_i1 a_s0 a_s1 a_s2 a_s3 v_10 ++ wR g a_rd a_dr rd_5 ++ wC g a_dr dr_3 ++ wC g a_nw nw_7) H locs → lv_has ls 3 [(2, .int v9), (1, .int r1), (0, .ref (a_v 0))] → fX5_text_L53 K n v9 v_10 = some (res, v_o, rd_o, dr_o, nw_o) → W P l E rmX5_text Z Mi AR BE ME CO H locs 0 0 Q (F0 Mi 53 ls []) := by
      intro K hKe n
      induction n with
      | zero => intro v9 v_10 H locs ls w hl hf; cases hf
      | succ n ih =>
        intro v9 v_10 H locs ls w hl hf
        rw [fX5_text_L53] at hf
        refine lv_iload_n C.1 C.2.1 (dk_at dkX5_text 26 rfl) rfl (lv_at hl 0 rfl) ?_
        refine lv_iconst (v := 2) C.1 C.2.1 (dk_at dkX5_text 27 rfl) (by decide) ?_
        refine lv_icmp_ge (tgt := 71) C.1 C.2.1 (dk_at dkX5_text 28 rfl) (by decide) (fun c12 => ?_) (fun c12 => ?_)
        · have hf := (if_pos c12).symm.trans hf
          exact hKe v9 v_10 _ _ _ w (lv_sub hl [1] rfl) hf
        · have hf := (if_neg c12).symm.trans hf
          refine lv_aload_n C.1 C.2.1 (dk_at dkX5_text 29 rfl) rfl (lv_at hl 2 rfl) ?_
          refine r_get (v := .ref (a_v 3)) C hK w.1 (fun w h => List.mem_cons_of_mem _ (inlX5 w h)) 0 rfl rfl 6 (by decide) (List.mem_cons_of_mem _ (inr2 _ (List.mem_of_getElem? (i := 5) rfl))) rfl (dk_at dkX5_text 30 rfl) ?_
          refine lv_iload_n C.1 C.2.1 (dk_at dkX5_text 31 rfl) rfl (lv_at hl 0 rfl) ?_
          refine lv_iconst (v := 0) C.1 C.2.1 (dk_at dkX5_text 32 rfl) (by decide) ?_
          obtain ⟨h13, hf⟩ := gd_at hf
          refine r_zast (k := v9.toNatClampNeg) (f := (vKe v_10)) C hK w 3 rfl h13 rfl (dk_at dkX5_text 33 rfl) (fun H locs w => ?_)
          obtain ⟨v_14, ev_14⟩ : ∃ z : VT, z = vKe' v_10 (upd (vKe v_10) v9.toNatClampNeg (vp_nar .boolean 0)) := ⟨_, rfl⟩
          have hf := nm_at ev_14 hf
          have w : Wd g A Z.heap (wV g a_v a_rd a_nw a_tr a_da a_i0 a_i1 a_s0 a_s1 a_s2 a_s3 v_14 ++ wR g a_rd a_dr rd_5 ++ wC g a_dr dr_3 ++ wC g a_nw nw_7) H locs := by rw [ev_14]; exact w
          obtain ⟨x15, ex15⟩ : ∃ z : Int32, z = v9 + 1 := ⟨_, rfl⟩
          have hf := nm_at ex15 hf
          refine lv_iinc (v := x15) (lv' := [(2, .int x15), (1, .int r1), (0, .ref (a_v 0))]) C.1 C.2.1 (dk_at dkX5_text 34 rfl) hl (k := 0) rfl (by rw [ex15]; rfl) (by decide) rfl (fun ls hl => ?_)
          refine lv_goto (tgt := 53) C.1 C.2.1 (dk_at dkX5_text 35 rfl) (by decide) ?_
          exact ih x15 v_14 _ _ _ w (lv_sub hl [0, 1, 2] rfl) hf
    refine L11 _ ?_ 4096 0 v _ _ _ w (lv_sub hl [0, 1, 2] rfl) hf
    clear hf
    intro v9 v_10 H locs ls w hl hf
    refine lv_iload_n C.1 C.2.1 (dk_at dkX5_text 36 rfl) rfl (lv_at hl 0 rfl) ?_
    cases hf
    exact fin _ _ _ _ _ (dk_at dkX5_text 37 rfl) rfl w
  · have hf := (if_neg c6).symm.trans hf
    refine lv_bipush (v := (-10)) C.1 C.2.1 (dk_at dkX5_text 12 rfl) (by decide) ?_
    refine lv_aload_n C.1 C.2.1 (dk_at dkX5_text 13 rfl) rfl (lv_at hl 1 rfl) ?_
    refine r_get (v := .ref (a_rd 0)) C hK w.1 (fun w h => List.mem_cons_of_mem _ (inlX5 w h)) 0 rfl rfl 0 (by decide) (List.mem_cons_of_mem _ (inr1 _ (List.mem_of_getElem? (i := 15) rfl))) rfl (dk_at dkX5_text 14 rfl) ?_
    refine r_get (v := .int (rPl rd_5)) C hK w.1 (fun w h => List.mem_cons_of_mem _ (inlX2 w h)) 5 rfl rfl 4 (by decide) (List.mem_cons_of_mem _ (inr6 _ (List.mem_of_getElem? (i := 13) rfl))) rfl (dk_at dkX5_text 15 rfl) ?_
    refine lv_isub C.1 C.2.1 (dk_at dkX5_text 16 rfl) ?_
    refine lv_topi (fun x16 ex16 => ?_)
    have hf := nm_at ex16 hf
    cases hf
    exact fin _ _ _ _ _ (dk_at dkX5_text 17 rfl) rfl w
