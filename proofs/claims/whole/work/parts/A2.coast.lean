-- X0.clear
abbrev tbX0_clear : List (Nat × Instr × Nat) := [(0, .aload_n 0, 1), (1, .lconst 0, 1), (2, .putfield 32, 3), (5, .aload_n 0, 1), (6, .iconst 0, 1), (7, .putfield 36, 3), (10, .aload_n 0, 1), (11, .iconst 0, 1), (12, .putfield 40, 3), (15, .aload_n 0, 1), (16, .iconst 0, 1), (17, .putfield 43, 3), (20, .iconst 0, 1), (21, .istore_n 1, 1), (22, .iload_n 1, 1), (23, .bipush 10, 2), (25, .if_icmp .ge 16, 3), (28, .aload_n 0, 1), (29, .getfield 9, 3), (32, .iload_n 1, 1), (33, .iconst 4, 1), (34, .iastore, 1), (35, .iinc 1 1, 3), (38, .goto (-16), 3), (41, .return_, 1)]
theorem dkX0_clear : dk cX0_clear tbX0_clear := dk_of (by decide +kernel)
abbrev cdX0_clear : Cond := Cond.code yX0_clear cX0_clear 2 none
abbrev rmX0_clear : Room := { frames := 0, cells := 0, slots := 0, locals := 0 }
theorem mwX0_clear : Cond.instanceMethod yX0_clear ∈ wsL_law ∧ Cond.selects RX0 yX0_clear yX0_clear ∈ wsL_law ∧ Cond.initialized RX0 ∈ wsL_law ∧ cdX0_clear ∈ wsL_law := ⟨inr3 _ (List.mem_of_getElem? (i := 4) rfl), inr3 _ (List.mem_of_getElem? (i := 5) rfl), inr1 _ (List.mem_of_getElem? (i := 18) rfl), inr3 _ (List.mem_of_getElem? (i := 6) rfl)⟩
theorem hdX0_clear : yX0_clear.cls = RX0 ∧ yX0_clear.cls ≠ "java/lang/invoke/MethodHandle" ∧ yX0_clear.cls ≠ "java/lang/invoke/VarHandle" ∧ (parseMethodDescriptor yX0_clear.desc).map (fun d => d.parameters.length) = some 0 := by decide +kernel
set_option maxHeartbeats 4000000 in
set_option maxRecDepth 100000 in
theorem kX0_clear (l : Launch) (g : Gx) (sz : Nat) (a_c : Nat → Nat) (c : CT) (c_o : CT) (hf : fX0_clear c = some c_o) : Met l yX0_clear (cdX0_clear :: wsL_law) rmX0_clear (va_Pc [.ref (a_c 0)] (RWp g sz (wC g a_c c))) (va_Qv (fun _ : Unit => True) (fun _ => RWq g (va_A (wC g a_c c) sz) (wC g a_c c_o)) (va_A (wC g a_c c) sz)) 0 0 (va_A (wC g a_c c) sz) := by
  refine Met_rwv (cc := cX0_clear) (maxL := 2) (by decide) rfl (Nat.le_of_ble_eq_true rfl) ?_
  intro P E Z Mi AR BE ME CO A Q C hK hA fin w ls hl
  have hl : lv_has ls 2 [(0, .ref (a_c 0))] := hl
  unfold fX0_clear at hf
  refine lv_aload_n C.1 C.2.1 (dk_at dkX0_clear 0 rfl) rfl (lv_at hl 0 rfl) ?_
  refine lv_lconst (v := 0) C.1 C.2.1 (dk_at dkX0_clear 1 rfl) (by decide) ?_
  refine r_put (v := .long 0) C hK w (fun w h => List.mem_cons_of_mem _ (inlX0 w h)) tyX0 tyX0_ok nmX0 0 rfl rfl 0 (by decide) (List.mem_cons_of_mem _ (inr3 _ (List.mem_of_getElem? (i := 7) rfl))) rfl rfl rfl (Nat.le_of_ble_eq_true rfl) (dk_at dkX0_clear 2 rfl) (fun H locs w => ?_)
  obtain ⟨c_1, ec_1⟩ : ∃ z : CT, z = cW' c 0 := ⟨_, rfl⟩
  have hf := nm_at ec_1 hf
  have w : Wd g A Z.heap (wC g a_c c_1) H locs := by rw [ec_1]; exact w
  refine lv_aload_n C.1 C.2.1 (dk_at dkX0_clear 3 rfl) rfl (lv_at hl 0 rfl) ?_
  refine lv_iconst (v := 0) C.1 C.2.1 (dk_at dkX0_clear 4 rfl) (by decide) ?_
  refine r_put (v := .int 0) C hK w (fun w h => List.mem_cons_of_mem _ (inlX0 w h)) tyX0 tyX0_ok nmX0 0 rfl rfl 3 (by decide) (List.mem_cons_of_mem _ (inr3 _ (List.mem_of_getElem? (i := 8) rfl))) rfl rfl rfl (Nat.le_of_ble_eq_true rfl) (dk_at dkX0_clear 5 rfl) (fun H locs w => ?_)
  obtain ⟨c_2, ec_2⟩ : ∃ z : CT, z = cSa' c_1 0 := ⟨_, rfl⟩
  have hf := nm_at ec_2 hf
  have w : Wd g A Z.heap (wC g a_c c_2) H locs := by rw [ec_2]; exact w
  refine lv_aload_n C.1 C.2.1 (dk_at dkX0_clear 6 rfl) rfl (lv_at hl 0 rfl) ?_
  refine lv_iconst (v := 0) C.1 C.2.1 (dk_at dkX0_clear 7 rfl) (by decide) ?_
  refine r_put (v := .int 0) C hK w (fun w h => List.mem_cons_of_mem _ (inlX0 w h)) tyX0 tyX0_ok nmX0 0 rfl rfl 5 (by decide) (List.mem_cons_of_mem _ (inr3 _ (List.mem_of_getElem? (i := 9) rfl))) rfl rfl rfl (Nat.le_of_ble_eq_true rfl) (dk_at dkX0_clear 8 rfl) (fun H locs w => ?_)
  obtain ⟨c_3, ec_3⟩ : ∃ z : CT, z = cHe' c_2 0 := ⟨_, rfl⟩
  have hf := nm_at ec_3 hf
  have w : Wd g A Z.heap (wC g a_c c_3) H locs := by rw [ec_3]; exact w
  refine lv_aload_n C.1 C.2.1 (dk_at dkX0_clear 9 rfl) rfl (lv_at hl 0 rfl) ?_
  refine lv_iconst (v := 0) C.1 C.2.1 (dk_at dkX0_clear 10 rfl) (by decide) ?_
  refine r_put (v := .int 0) C hK w (fun w h => List.mem_cons_of_mem _ (inlX0 w h)) tyX0 tyX0_ok nmX0 0 rfl rfl 8 (by decide) (List.mem_cons_of_mem _ (inr3 _ (List.mem_of_getElem? (i := 10) rfl))) rfl rfl rfl (Nat.le_of_ble_eq_true rfl) (dk_at dkX0_clear 11 rfl) (fun H locs w => ?_)
  obtain ⟨c_4, ec_4⟩ : ∃ z : CT, z = cSe' c_3 0 := ⟨_, rfl⟩
  have hf := nm_at ec_4 hf
  have w : Wd g A Z.heap (wC g a_c c_4) H locs := by rw [ec_4]; exact w
  refine lv_iconst (v := 0) C.1 C.2.1 (dk_at dkX0_clear 12 rfl) (by decide) ?_
  refine lv_istore_n (lv' := [(1, .int 0), (0, .ref (a_c 0))]) C.1 C.2.1 (dk_at dkX0_clear 13 rfl) rfl hl (by decide) rfl (fun ls hl => ?_)
  have L7 : ∀ (K : Int32 → CT → Option (CT)), (∀ (v5 : Int32) (c_6 : CT) (H : Heap) (locs : List Loc) (ls : Array Slot), Wd g A Z.heap (wC g a_c c_6) H locs → lv_has ls 2 [] → K v5 c_6 = some c_o → W P l E rmX0_clear Z Mi AR BE ME CO H locs 0 0 Q (F0 Mi 41 ls [])) → ∀ (n : Nat), ∀ (v5 : Int32) (c_6 : CT) (H : Heap) (locs : List Loc) (ls : Array Slot), Wd g A Z.heap (wC g a_c c_6) H locs → lv_has ls 2 [(1, .int v5), (0, .ref (a_c 0))] → fX0_clear_L22 K n v5 c_6 = some c_o → W P l E rmX0_clear Z Mi AR BE ME CO H locs 0 0 Q (F0 Mi 22 ls []) := by
    intro K hKe n
    induction n with
    | zero => intro v5 c_6 H locs ls w hl hf; cases hf
    | succ n ih =>
      intro v5 c_6 H locs ls w hl hf
      rw [fX0_clear_L22] at hf
      refine lv_iload_n C.1 C.2.1 (dk_at dkX0_clear 14 rfl) rfl (lv_at hl 0 rfl) ?_
      refine lv_bipush (v := 10) C.1 C.2.1 (dk_at dkX0_clear 15 rfl) (by decide) ?_
      refine lv_icmp_ge (tgt := 41) C.1 C.2.1 (dk_at dkX0_clear 16 rfl) (by decide) (fun c8 => ?_) (fun c8 => ?_)
      · have hf := (if_pos c8).symm.trans hf
        exact hKe v5 c_6 _ _ _ w (lv_sub hl [] rfl) hf
      · have hf := (if_neg c8).symm.trans hf
        refine lv_aload_n C.1 C.2.1 (dk_at dkX0_clear 17 rfl) rfl (lv_at hl 1 rfl) ?_
        refine r_get (v := .ref (a_c 1)) C hK w.1 (fun w h => List.mem_cons_of_mem _ (inlX0 w h)) 0 rfl rfl 1 (by decide) (List.mem_cons_of_mem _ (inr2 _ (List.mem_of_getElem? (i := 21) rfl))) rfl (dk_at dkX0_clear 18 rfl) ?_
        refine lv_iload_n C.1 C.2.1 (dk_at dkX0_clear 19 rfl) rfl (lv_at hl 0 rfl) ?_
        refine lv_iconst (v := 4) C.1 C.2.1 (dk_at dkX0_clear 20 rfl) (by decide) ?_
        obtain ⟨h9, hf⟩ := gd_at hf
        refine r_iast (k := v5.toNatClampNeg) (f := (cWi c_6)) C hK w 1 rfl h9 rfl (dk_at dkX0_clear 21 rfl) (fun H locs w => ?_)
        obtain ⟨c_10, ec_10⟩ : ∃ z : CT, z = cWi' c_6 (upd (cWi c_6) v5.toNatClampNeg 4) := ⟨_, rfl⟩
        have hf := nm_at ec_10 hf
        have w : Wd g A Z.heap (wC g a_c c_10) H locs := by rw [ec_10]; exact w
        obtain ⟨x11, ex11⟩ : ∃ z : Int32, z = v5 + 1 := ⟨_, rfl⟩
        have hf := nm_at ex11 hf
        refine lv_iinc (v := x11) (lv' := [(1, .int x11), (0, .ref (a_c 0))]) C.1 C.2.1 (dk_at dkX0_clear 22 rfl) hl (k := 0) rfl (by rw [ex11]; rfl) (by decide) rfl (fun ls hl => ?_)
        refine lv_goto (tgt := 22) C.1 C.2.1 (dk_at dkX0_clear 23 rfl) (by decide) ?_
        exact ih x11 c_10 _ _ _ w (lv_sub hl [0, 1] rfl) hf
  refine L7 _ ?_ 4096 0 c_4 _ _ _ w (lv_sub hl [0, 1] rfl) hf
  clear hf
  intro v5 c_6 H locs ls w hl hf
  cases hf
  exact fin _ _ _ _ (dk_at dkX0_clear 24 rfl) w
-- X0.copyFrom
abbrev tbX0_copyFrom : List (Nat × Instr × Nat) := [(0, .aload_n 0, 1), (1, .aload_n 1, 1), (2, .getfield 32, 3), (5, .putfield 32, 3), (8, .aload_n 0, 1), (9, .aload_n 1, 1), (10, .getfield 36, 3), (13, .putfield 36, 3), (16, .aload_n 0, 1), (17, .aload_n 1, 1), (18, .getfield 40, 3), (21, .putfield 40, 3), (24, .aload_n 0, 1), (25, .aload_n 1, 1), (26, .getfield 43, 3), (29, .putfield 43, 3), (32, .aload_n 1, 1), (33, .getfield 9, 3), (36, .iconst 0, 1), (37, .aload_n 0, 1), (38, .getfield 9, 3), (41, .iconst 0, 1), (42, .bipush 10, 2), (44, .invokestatic 46, 3), (47, .iconst 0, 1), (48, .istore_n 2, 1), (49, .iload_n 2, 1), (50, .iconst 5, 1), (51, .if_icmp .ge 27, 3), (54, .aload_n 1, 1), (55, .getfield 17, 3), (58, .iload_n 2, 1), (59, .aaload, 1), (60, .iconst 0, 1), (61, .aload_n 0, 1), (62, .getfield 17, 3), (65, .iload_n 2, 1), (66, .aaload, 1), (67, .iconst 0, 1), (68, .iconst 5, 1), (69, .invokestatic 46, 3), (72, .iinc 2 1, 3), (75, .goto (-26), 3), (78, .aload_n 1, 1), (79, .getfield 20, 3), (82, .iconst 0, 1), (83, .aload_n 0, 1), (84, .getfield 20, 3), (87, .iconst 0, 1), (88, .iconst 4, 1), (89, .invokestatic 46, 3), (92, .aload_n 1, 1), (93, .getfield 23, 3), (96, .iconst 0, 1), (97, .aload_n 0, 1), (98, .getfield 23, 3), (101, .iconst 0, 1), (102, .bipush 6, 2), (104, .invokestatic 46, 3), (107, .aload_n 1, 1), (108, .getfield 26, 3), (111, .iconst 0, 1), (112, .aload_n 0, 1), (113, .getfield 26, 3), (116, .iconst 0, 1), (117, .bipush 6, 2), (119, .invokestatic 46, 3), (122, .return_, 1)]
theorem dkX0_copyFrom : dk cX0_copyFrom tbX0_copyFrom := dk_of (by decide +kernel)
abbrev cdX0_copyFrom : Cond := Cond.code yX0_copyFrom cX0_copyFrom 3 none
abbrev rmX0_copyFrom : Room := { frames := 1, cells := 0, slots := 0, locals := 18 }
theorem mwX0_copyFrom : Cond.instanceMethod yX0_copyFrom ∈ wsL_law ∧ Cond.selects RX0 yX0_copyFrom yX0_copyFrom ∈ wsL_law ∧ Cond.initialized RX0 ∈ wsL_law ∧ cdX0_copyFrom ∈ wsL_law := ⟨inr12 _ (List.mem_of_getElem? (i := 7) rfl), inr12 _ (List.mem_of_getElem? (i := 8) rfl), inr1 _ (List.mem_of_getElem? (i := 18) rfl), inr12 _ (List.mem_of_getElem? (i := 9) rfl)⟩
theorem hdX0_copyFrom : yX0_copyFrom.cls = RX0 ∧ yX0_copyFrom.cls ≠ "java/lang/invoke/MethodHandle" ∧ yX0_copyFrom.cls ≠ "java/lang/invoke/VarHandle" ∧ (parseMethodDescriptor yX0_copyFrom.desc).map (fun d => d.parameters.length) = some 1 := by decide +kernel
set_option maxHeartbeats 4000000 in
set_option maxRecDepth 100000 in
theorem kX0_copyFrom (l : Launch) (g : Gx) (sz : Nat) (a_c a_o : Nat → Nat) (c : CT) (o : CT) (c_o : CT) (hf : fX0_copyFrom c o = some c_o) : Met l yX0_copyFrom (cdX0_copyFrom :: wsL_law) rmX0_copyFrom (va_Pc [.ref (a_c 0), .ref (a_o 0)] (RWp g sz (wC g a_c c ++ wC g a_o o))) (va_Qv (fun _ : Unit => True) (fun _ => RWq g (va_A (wC g a_c c ++ wC g a_o o) sz) (wC g a_c c_o ++ wC g a_o o)) (va_A (wC g a_c c ++ wC g a_o o) sz)) 0 0 (va_A (wC g a_c c ++ wC g a_o o) sz) := by
  refine Met_rwv (cc := cX0_copyFrom) (maxL := 3) (by decide) rfl (Nat.le_of_ble_eq_true rfl) ?_
  intro P E Z Mi AR BE ME CO A Q C hK hA fin w ls hl
  have hl : lv_has ls 3 [(0, .ref (a_c 0)), (1, .ref (a_o 0))] := hl
  unfold fX0_copyFrom at hf
  refine lv_aload_n C.1 C.2.1 (dk_at dkX0_copyFrom 0 rfl) rfl (lv_at hl 0 rfl) ?_
  refine lv_aload_n C.1 C.2.1 (dk_at dkX0_copyFrom 1 rfl) rfl (lv_at hl 1 rfl) ?_
  refine r_get (v := .long (cW o)) C hK w.1 (fun w h => List.mem_cons_of_mem _ (inlX0 w h)) 11 rfl rfl 0 (by decide) (List.mem_cons_of_mem _ (inr3 _ (List.mem_of_getElem? (i := 7) rfl))) rfl (dk_at dkX0_copyFrom 2 rfl) ?_
  refine r_put (v := .long (cW o)) C hK w (fun w h => List.mem_cons_of_mem _ (inlX0 w h)) tyX0 tyX0_ok nmX0 0 rfl rfl 0 (by decide) (List.mem_cons_of_mem _ (inr3 _ (List.mem_of_getElem? (i := 7) rfl))) rfl rfl rfl (Nat.le_of_ble_eq_true rfl) (dk_at dkX0_copyFrom 3 rfl) (fun H locs w => ?_)
  obtain ⟨c_1, ec_1⟩ : ∃ z : CT, z = cW' c (cW o) := ⟨_, rfl⟩
  have hf := nm_at ec_1 hf
  have w : Wd g A Z.heap (wC g a_c c_1 ++ wC g a_o o) H locs := by rw [ec_1]; exact w
  refine lv_aload_n C.1 C.2.1 (dk_at dkX0_copyFrom 4 rfl) rfl (lv_at hl 0 rfl) ?_
  refine lv_aload_n C.1 C.2.1 (dk_at dkX0_copyFrom 5 rfl) rfl (lv_at hl 1 rfl) ?_
  refine r_get (v := .int (cSa o)) C hK w.1 (fun w h => List.mem_cons_of_mem _ (inlX0 w h)) 11 rfl rfl 3 (by decide) (List.mem_cons_of_mem _ (inr3 _ (List.mem_of_getElem? (i := 8) rfl))) rfl (dk_at dkX0_copyFrom 6 rfl) ?_
  refine r_put (v := .int (cSa o)) C hK w (fun w h => List.mem_cons_of_mem _ (inlX0 w h)) tyX0 tyX0_ok nmX0 0 rfl rfl 3 (by decide) (List.mem_cons_of_mem _ (inr3 _ (List.mem_of_getElem? (i := 8) rfl))) rfl rfl rfl (Nat.le_of_ble_eq_true rfl) (dk_at dkX0_copyFrom 7 rfl) (fun H locs w => ?_)
  obtain ⟨c_2, ec_2⟩ : ∃ z : CT, z = cSa' c_1 (cSa o) := ⟨_, rfl⟩
  have hf := nm_at ec_2 hf
  have w : Wd g A Z.heap (wC g a_c c_2 ++ wC g a_o o) H locs := by rw [ec_2]; exact w
  refine lv_aload_n C.1 C.2.1 (dk_at dkX0_copyFrom 8 rfl) rfl (lv_at hl 0 rfl) ?_
  refine lv_aload_n C.1 C.2.1 (dk_at dkX0_copyFrom 9 rfl) rfl (lv_at hl 1 rfl) ?_
  refine r_get (v := .int (cHe o)) C hK w.1 (fun w h => List.mem_cons_of_mem _ (inlX0 w h)) 11 rfl rfl 5 (by decide) (List.mem_cons_of_mem _ (inr3 _ (List.mem_of_getElem? (i := 9) rfl))) rfl (dk_at dkX0_copyFrom 10 rfl) ?_
  refine r_put (v := .int (cHe o)) C hK w (fun w h => List.mem_cons_of_mem _ (inlX0 w h)) tyX0 tyX0_ok nmX0 0 rfl rfl 5 (by decide) (List.mem_cons_of_mem _ (inr3 _ (List.mem_of_getElem? (i := 9) rfl))) rfl rfl rfl (Nat.le_of_ble_eq_true rfl) (dk_at dkX0_copyFrom 11 rfl) (fun H locs w => ?_)
  obtain ⟨c_3, ec_3⟩ : ∃ z : CT, z = cHe' c_2 (cHe o) := ⟨_, rfl⟩
  have hf := nm_at ec_3 hf
  have w : Wd g A Z.heap (wC g a_c c_3 ++ wC g a_o o) H locs := by rw [ec_3]; exact w
  refine lv_aload_n C.1 C.2.1 (dk_at dkX0_copyFrom 12 rfl) rfl (lv_at hl 0 rfl) ?_
  refine lv_aload_n C.1 C.2.1 (dk_at dkX0_copyFrom 13 rfl) rfl (lv_at hl 1 rfl) ?_
  refine r_get (v := .int (cSe o)) C hK w.1 (fun w h => List.mem_cons_of_mem _ (inlX0 w h)) 11 rfl rfl 8 (by decide) (List.mem_cons_of_mem _ (inr3 _ (List.mem_of_getElem? (i := 10) rfl))) rfl (dk_at dkX0_copyFrom 14 rfl) ?_
  refine r_put (v := .int (cSe o)) C hK w (fun w h => List.mem_cons_of_mem _ (inlX0 w h)) tyX0 tyX0_ok nmX0 0 rfl rfl 8 (by decide) (List.mem_cons_of_mem _ (inr3 _ (List.mem_of_getElem? (i := 10) rfl))) rfl rfl rfl (Nat.le_of_ble_eq_true rfl) (dk_at dkX0_copyFrom 15 rfl) (fun H locs w => ?_)
  obtain ⟨c_4, ec_4⟩ : ∃ z : CT, z = cSe' c_3 (cSe o) := ⟨_, rfl⟩
  have hf := nm_at ec_4 hf
  have w : Wd g A Z.heap (wC g a_c c_4 ++ wC g a_o o) H locs := by rw [ec_4]; exact w
  refine lv_aload_n C.1 C.2.1 (dk_at dkX0_copyFrom 16 rfl) rfl (lv_at hl 1 rfl) ?_
  refine r_get (v := .ref (a_o 1)) C hK w.1 (fun w h => List.mem_cons_of_mem _ (inlX0 w h)) 11 rfl rfl 1 (by decide) (List.mem_cons_of_mem _ (inr2 _ (List.mem_of_getElem? (i := 21) rfl))) rfl (dk_at dkX0_copyFrom 17 rfl) ?_
  refine lv_iconst (v := 0) C.1 C.2.1 (dk_at dkX0_copyFrom 18 rfl) (by decide) ?_
  refine lv_aload_n C.1 C.2.1 (dk_at dkX0_copyFrom 19 rfl) rfl (lv_at hl 0 rfl) ?_
  refine r_get (v := .ref (a_c 1)) C hK w.1 (fun w h => List.mem_cons_of_mem _ (inlX0 w h)) 0 rfl rfl 1 (by decide) (List.mem_cons_of_mem _ (inr2 _ (List.mem_of_getElem? (i := 21) rfl))) rfl (dk_at dkX0_copyFrom 20 rfl) ?_
  refine lv_iconst (v := 0) C.1 C.2.1 (dk_at dkX0_copyFrom 21 rfl) (by decide) ?_
  refine lv_bipush (v := 10) C.1 C.2.1 (dk_at dkX0_copyFrom 22 rfl) (by decide) ?_
  refine r_copy (a0 := a_o 1) (a := a_c 1) (n0 := 10) (n1 := 10) (f := cWi o) (f1 := cWi c_4) C hK w hl.1 (List.mem_cons_of_mem _ (inr12 _ (List.mem_of_getElem? (i := 10) rfl))) (List.mem_cons_of_mem _ (inr12 _ (List.mem_of_getElem? (i := 11) rfl))) (List.mem_cons_of_mem _ (inr12 _ (List.mem_of_getElem? (i := 12) rfl))) (List.mem_cons_of_mem _ (inr12 _ (List.mem_of_getElem? (i := 13) rfl))) 12 1 rfl rfl (by decide) (by decide) (by decide) (by decide) (by decide) (Nat.le_of_ble_eq_true rfl) (Nat.le_of_ble_eq_true rfl) (dk_at dkX0_copyFrom 23 rfl) (fun H locs w => ?_)
  obtain ⟨c_5, ec_5⟩ : ∃ z : CT, z = cWi' c_4 (va_cpy (cWi o) (cWi c_4) 0 0 10) := ⟨_, rfl⟩
  have hf := nm_at ec_5 hf
  have w : Wd g A Z.heap (wC g a_c c_5 ++ wC g a_o o) H locs := by rw [ec_5]; exact w
  refine lv_iconst (v := 0) C.1 C.2.1 (dk_at dkX0_copyFrom 24 rfl) (by decide) ?_
  refine lv_istore_n (lv' := [(2, .int 0), (0, .ref (a_c 0)), (1, .ref (a_o 0))]) C.1 C.2.1 (dk_at dkX0_copyFrom 25 rfl) rfl hl (by decide) rfl (fun ls hl => ?_)
  have L8 : ∀ (K : Int32 → CT → Option (CT)), (∀ (v6 : Int32) (c_7 : CT) (H : Heap) (locs : List Loc) (ls : Array Slot), Wd g A Z.heap (wC g a_c c_7 ++ wC g a_o o) H locs → lv_has ls 3 [(0, .ref (a_c 0)), (1, .ref (a_o 0))] → K v6 c_7 = some c_o → W P l E rmX0_copyFrom Z Mi AR BE ME CO H locs 0 0 Q (F0 Mi 78 ls [])) → ∀ (n : Nat), ∀ (v6 : Int32) (c_7 : CT) (H : Heap) (locs : List Loc) (ls : Array Slot), Wd g A Z.heap (wC g a_c c_7 ++ wC g a_o o) H locs → lv_has ls 3 [(2, .int v6), (0, .ref (a_c 0)), (1, .ref (a_o 0))] → fX0_copyFrom_L49 o K n v6 c_7 = some c_o → W P l E rmX0_copyFrom Z Mi AR BE ME CO H locs 0 0 Q (F0 Mi 49 ls []) := by
    intro K hKe n
    induction n with
    | zero => intro v6 c_7 H locs ls w hl hf; cases hf
    | succ n ih =>
      intro v6 c_7 H locs ls w hl hf
      rw [fX0_copyFrom_L49] at hf
      refine lv_iload_n C.1 C.2.1 (dk_at dkX0_copyFrom 26 rfl) rfl (lv_at hl 0 rfl) ?_
      refine lv_iconst (v := 5) C.1 C.2.1 (dk_at dkX0_copyFrom 27 rfl) (by decide) ?_
      refine lv_icmp_ge (tgt := 78) C.1 C.2.1 (dk_at dkX0_copyFrom 28 rfl) (by decide) (fun c9 => ?_) (fun c9 => ?_)
      · have hf := (if_pos c9).symm.trans hf
        exact hKe v6 c_7 _ _ _ w (lv_sub hl [1, 2] rfl) hf
      · have hf := (if_neg c9).symm.trans hf
        refine lv_aload_n C.1 C.2.1 (dk_at dkX0_copyFrom 29 rfl) rfl (lv_at hl 2 rfl) ?_
        refine r_get (v := .ref (a_o 2)) C hK w.1 (fun w h => List.mem_cons_of_mem _ (inlX0 w h)) 11 rfl rfl 2 (by decide) (List.mem_cons_of_mem _ (inr2 _ (List.mem_of_getElem? (i := 23) rfl))) rfl (dk_at dkX0_copyFrom 30 rfl) ?_
        refine lv_iload_n C.1 C.2.1 (dk_at dkX0_copyFrom 31 rfl) rfl (lv_at hl 0 rfl) ?_
        obtain ⟨h10, hf⟩ := gd_at hf
        refine r_aldr (b := a_o (3 + v6.toNatClampNeg)) C hK w.1 13 rfl h10 rfl (dk_at dkX0_copyFrom 32 rfl) ?_
        have h11 := in_lt h10
        refine lv_iconst (v := 0) C.1 C.2.1 (dk_at dkX0_copyFrom 33 rfl) (by decide) ?_
        refine lv_aload_n C.1 C.2.1 (dk_at dkX0_copyFrom 34 rfl) rfl (lv_at hl 1 rfl) ?_
        refine r_get (v := .ref (a_c 2)) C hK w.1 (fun w h => List.mem_cons_of_mem _ (inlX0 w h)) 0 rfl rfl 2 (by decide) (List.mem_cons_of_mem _ (inr2 _ (List.mem_of_getElem? (i := 23) rfl))) rfl (dk_at dkX0_copyFrom 35 rfl) ?_
        refine lv_iload_n C.1 C.2.1 (dk_at dkX0_copyFrom 36 rfl) rfl (lv_at hl 0 rfl) ?_
        obtain ⟨h12, hf⟩ := gd_at hf
        refine r_aldr (b := a_c (3 + v6.toNatClampNeg)) C hK w.1 2 rfl h12 rfl (dk_at dkX0_copyFrom 37 rfl) ?_
        have h13 := in_lt h12
        refine lv_iconst (v := 0) C.1 C.2.1 (dk_at dkX0_copyFrom 38 rfl) (by decide) ?_
        refine lv_iconst (v := 5) C.1 C.2.1 (dk_at dkX0_copyFrom 39 rfl) (by decide) ?_
        refine r_copy (a0 := a_o (3 + v6.toNatClampNeg)) (a := a_c (3 + v6.toNatClampNeg)) (n0 := 5) (n1 := 5) (f := cTo o v6.toNatClampNeg) (f1 := cTo c_7 v6.toNatClampNeg) C hK w hl.1 (List.mem_cons_of_mem _ (inr12 _ (List.mem_of_getElem? (i := 10) rfl))) (List.mem_cons_of_mem _ (inr12 _ (List.mem_of_getElem? (i := 11) rfl))) (List.mem_cons_of_mem _ (inr12 _ (List.mem_of_getElem? (i := 12) rfl))) (List.mem_cons_of_mem _ (inr12 _ (List.mem_of_getElem? (i := 13) rfl))) (11 + (3 + v6.toNatClampNeg)) (0 + (3 + v6.toNatClampNeg)) (by rcases lt5 h11 with h5 | h5 | h5 | h5 | h5 <;> rw [h5] <;> rfl) (by rcases lt5 h13 with h5 | h5 | h5 | h5 | h5 <;> rw [h5] <;> rfl) (by decide) (by decide) (by decide) (by decide) (by decide) (Nat.le_of_ble_eq_true rfl) (Nat.le_of_ble_eq_true rfl) (dk_at dkX0_copyFrom 40 rfl) (fun H locs w => ?_)
        obtain ⟨c_14, ec_14⟩ : ∃ z : CT, z = cTo' c_7 (va_up (cTo c_7) v6.toNatClampNeg (va_cpy (cTo o v6.toNatClampNeg) (cTo c_7 v6.toNatClampNeg) 0 0 5)) := ⟨_, rfl⟩
        have hf := nm_at ec_14 hf
        have w : Wd g A Z.heap (wC g a_c c_14 ++ wC g a_o o) H locs := by rw [ec_14]; rcases lt5 h13 with h5 | h5 | h5 | h5 | h5 <;> (rw [h5] at w; rw [h5]; exact w)
        obtain ⟨x15, ex15⟩ : ∃ z : Int32, z = v6 + 1 := ⟨_, rfl⟩
        have hf := nm_at ex15 hf
        refine lv_iinc (v := x15) (lv' := [(2, .int x15), (0, .ref (a_c 0)), (1, .ref (a_o 0))]) C.1 C.2.1 (dk_at dkX0_copyFrom 41 rfl) hl (k := 0) rfl (by rw [ex15]; rfl) (by decide) rfl (fun ls hl => ?_)
        refine lv_goto (tgt := 49) C.1 C.2.1 (dk_at dkX0_copyFrom 42 rfl) (by decide) ?_
        exact ih x15 c_14 _ _ _ w (lv_sub hl [0, 1, 2] rfl) hf
  refine L8 _ ?_ 4096 0 c_5 _ _ _ w (lv_sub hl [0, 1, 2] rfl) hf
  clear hf
  intro v6 c_7 H locs ls w hl hf
  refine lv_aload_n C.1 C.2.1 (dk_at dkX0_copyFrom 43 rfl) rfl (lv_at hl 1 rfl) ?_
  refine r_get (v := .ref (a_o 8)) C hK w.1 (fun w h => List.mem_cons_of_mem _ (inlX0 w h)) 11 rfl rfl 4 (by decide) (List.mem_cons_of_mem _ (inr3 _ (List.mem_of_getElem? (i := 0) rfl))) rfl (dk_at dkX0_copyFrom 44 rfl) ?_
  refine lv_iconst (v := 0) C.1 C.2.1 (dk_at dkX0_copyFrom 45 rfl) (by decide) ?_
  refine lv_aload_n C.1 C.2.1 (dk_at dkX0_copyFrom 46 rfl) rfl (lv_at hl 0 rfl) ?_
  refine r_get (v := .ref (a_c 8)) C hK w.1 (fun w h => List.mem_cons_of_mem _ (inlX0 w h)) 0 rfl rfl 4 (by decide) (List.mem_cons_of_mem _ (inr3 _ (List.mem_of_getElem? (i := 0) rfl))) rfl (dk_at dkX0_copyFrom 47 rfl) ?_
  refine lv_iconst (v := 0) C.1 C.2.1 (dk_at dkX0_copyFrom 48 rfl) (by decide) ?_
  refine lv_iconst (v := 4) C.1 C.2.1 (dk_at dkX0_copyFrom 49 rfl) (by decide) ?_
  refine r_copy (a0 := a_o 8) (a := a_c 8) (n0 := 4) (n1 := 4) (f := cAt o) (f1 := cAt c_7) C hK w hl.1 (List.mem_cons_of_mem _ (inr12 _ (List.mem_of_getElem? (i := 10) rfl))) (List.mem_cons_of_mem _ (inr12 _ (List.mem_of_getElem? (i := 11) rfl))) (List.mem_cons_of_mem _ (inr12 _ (List.mem_of_getElem? (i := 12) rfl))) (List.mem_cons_of_mem _ (inr12 _ (List.mem_of_getElem? (i := 13) rfl))) 19 8 rfl rfl (by decide) (by decide) (by decide) (by decide) (by decide) (Nat.le_of_ble_eq_true rfl) (Nat.le_of_ble_eq_true rfl) (dk_at dkX0_copyFrom 50 rfl) (fun H locs w => ?_)
  obtain ⟨c_16, ec_16⟩ : ∃ z : CT, z = cAt' c_7 (va_cpy (cAt o) (cAt c_7) 0 0 4) := ⟨_, rfl⟩
  have hf := nm_at ec_16 hf
  have w : Wd g A Z.heap (wC g a_c c_16 ++ wC g a_o o) H locs := by rw [ec_16]; exact w
  refine lv_aload_n C.1 C.2.1 (dk_at dkX0_copyFrom 51 rfl) rfl (lv_at hl 1 rfl) ?_
  refine r_get (v := .ref (a_o 9)) C hK w.1 (fun w h => List.mem_cons_of_mem _ (inlX0 w h)) 11 rfl rfl 6 (by decide) (List.mem_cons_of_mem _ (inr3 _ (List.mem_of_getElem? (i := 1) rfl))) rfl (dk_at dkX0_copyFrom 52 rfl) ?_
  refine lv_iconst (v := 0) C.1 C.2.1 (dk_at dkX0_copyFrom 53 rfl) (by decide) ?_
  refine lv_aload_n C.1 C.2.1 (dk_at dkX0_copyFrom 54 rfl) rfl (lv_at hl 0 rfl) ?_
  refine r_get (v := .ref (a_c 9)) C hK w.1 (fun w h => List.mem_cons_of_mem _ (inlX0 w h)) 0 rfl rfl 6 (by decide) (List.mem_cons_of_mem _ (inr3 _ (List.mem_of_getElem? (i := 1) rfl))) rfl (dk_at dkX0_copyFrom 55 rfl) ?_
  refine lv_iconst (v := 0) C.1 C.2.1 (dk_at dkX0_copyFrom 56 rfl) (by decide) ?_
  refine lv_bipush (v := 6) C.1 C.2.1 (dk_at dkX0_copyFrom 57 rfl) (by decide) ?_
  refine r_copy (a0 := a_o 9) (a := a_c 9) (n0 := 6) (n1 := 6) (f := cSs o) (f1 := cSs c_16) C hK w hl.1 (List.mem_cons_of_mem _ (inr12 _ (List.mem_of_getElem? (i := 10) rfl))) (List.mem_cons_of_mem _ (inr12 _ (List.mem_of_getElem? (i := 11) rfl))) (List.mem_cons_of_mem _ (inr12 _ (List.mem_of_getElem? (i := 12) rfl))) (List.mem_cons_of_mem _ (inr12 _ (List.mem_of_getElem? (i := 13) rfl))) 20 9 rfl rfl (by decide) (by decide) (by decide) (by decide) (by decide) (Nat.le_of_ble_eq_true rfl) (Nat.le_of_ble_eq_true rfl) (dk_at dkX0_copyFrom 58 rfl) (fun H locs w => ?_)
  obtain ⟨c_17, ec_17⟩ : ∃ z : CT, z = cSs' c_16 (va_cpy (cSs o) (cSs c_16) 0 0 6) := ⟨_, rfl⟩
  have hf := nm_at ec_17 hf
  have w : Wd g A Z.heap (wC g a_c c_17 ++ wC g a_o o) H locs := by rw [ec_17]; exact w
  refine lv_aload_n C.1 C.2.1 (dk_at dkX0_copyFrom 59 rfl) rfl (lv_at hl 1 rfl) ?_
  refine r_get (v := .ref (a_o 10)) C hK w.1 (fun w h => List.mem_cons_of_mem _ (inlX0 w h)) 11 rfl rfl 7 (by decide) (List.mem_cons_of_mem _ (inr3 _ (List.mem_of_getElem? (i := 2) rfl))) rfl (dk_at dkX0_copyFrom 60 rfl) ?_
  refine lv_iconst (v := 0) C.1 C.2.1 (dk_at dkX0_copyFrom 61 rfl) (by decide) ?_
  refine lv_aload_n C.1 C.2.1 (dk_at dkX0_copyFrom 62 rfl) rfl (lv_at hl 0 rfl) ?_
  refine r_get (v := .ref (a_c 10)) C hK w.1 (fun w h => List.mem_cons_of_mem _ (inlX0 w h)) 0 rfl rfl 7 (by decide) (List.mem_cons_of_mem _ (inr3 _ (List.mem_of_getElem? (i := 2) rfl))) rfl (dk_at dkX0_copyFrom 63 rfl) ?_
  refine lv_iconst (v := 0) C.1 C.2.1 (dk_at dkX0_copyFrom 64 rfl) (by decide) ?_
  refine lv_bipush (v := 6) C.1 C.2.1 (dk_at dkX0_copyFrom 65 rfl) (by decide) ?_
  refine r_copy (a0 := a_o 10) (a := a_c 10) (n0 := 6) (n1 := 6) (f := cSp o) (f1 := cSp c_17) C hK w hl.1 (List.mem_cons_of_mem _ (inr12 _ (List.mem_of_getElem? (i := 10) rfl))) (List.mem_cons_of_mem _ (inr12 _ (List.mem_of_getElem? (i := 11) rfl))) (List.mem_cons_of_mem _ (inr12 _ (List.mem_of_getElem? (i := 12) rfl))) (List.mem_cons_of_mem _ (inr12 _ (List.mem_of_getElem? (i := 13) rfl))) 21 10 rfl rfl (by decide) (by decide) (by decide) (by decide) (by decide) (Nat.le_of_ble_eq_true rfl) (Nat.le_of_ble_eq_true rfl) (dk_at dkX0_copyFrom 66 rfl) (fun H locs w => ?_)
  obtain ⟨c_18, ec_18⟩ : ∃ z : CT, z = cSp' c_17 (va_cpy (cSp o) (cSp c_17) 0 0 6) := ⟨_, rfl⟩
  have hf := nm_at ec_18 hf
  have w : Wd g A Z.heap (wC g a_c c_18 ++ wC g a_o o) H locs := by rw [ec_18]; exact w
  cases hf
  exact fin _ _ _ _ (dk_at dkX0_copyFrom 67 rfl) w
-- X0.isSaying
abbrev tbX0_isSaying : List (Nat × Instr × Nat) := [(0, .iload_n 1, 1), (1, .ifCond .lt 15, 3), (4, .iload_n 1, 1), (5, .aload_n 0, 1), (6, .getfield 36, 3), (9, .if_icmp .ge 7, 3), (12, .iconst 1, 1), (13, .goto 4, 3), (16, .iconst 0, 1), (17, .ireturn, 1)]
theorem dkX0_isSaying : dk cX0_isSaying tbX0_isSaying := dk_of (by decide +kernel)
abbrev cdX0_isSaying : Cond := Cond.code yX0_isSaying cX0_isSaying 2 (some .boolean)
abbrev rmX0_isSaying : Room := { frames := 0, cells := 0, slots := 0, locals := 0 }
theorem mwX0_isSaying : Cond.instanceMethod yX0_isSaying ∈ wsL_law ∧ Cond.selects RX0 yX0_isSaying yX0_isSaying ∈ wsL_law ∧ Cond.initialized RX0 ∈ wsL_law ∧ cdX0_isSaying ∈ wsL_law := ⟨inr17 _ (List.mem_of_getElem? (i := 23) rfl), inr18 _ (List.mem_of_getElem? (i := 0) rfl), inr1 _ (List.mem_of_getElem? (i := 18) rfl), inr18 _ (List.mem_of_getElem? (i := 1) rfl)⟩
theorem hdX0_isSaying : yX0_isSaying.cls = RX0 ∧ yX0_isSaying.cls ≠ "java/lang/invoke/MethodHandle" ∧ yX0_isSaying.cls ≠ "java/lang/invoke/VarHandle" ∧ (parseMethodDescriptor yX0_isSaying.desc).map (fun d => d.parameters.length) = some 1 := by decide +kernel
set_option maxHeartbeats 4000000 in
set_option maxRecDepth 100000 in
theorem kX0_isSaying (l : Launch) (g : Gx) (a_c : Nat → Nat) (c : CT) (p1 : Int32) (res : Int32) (hf : fX0_isSaying p1 c = some res) : Met l yX0_isSaying (cdX0_isSaying :: wsL_law) rmX0_isSaying (va_Pc [.ref (a_c 0), .int p1] (RO g (wC g a_c c))) (vp_Si (fun x => x = res)) 0 0 (fun _ => False) := by
  refine Met_roz (cc := cX0_isSaying) (maxL := 2) (by decide) rfl (Nat.le_of_ble_eq_true rfl) ?_
  intro P E Z Mi AR BE ME CO Q C fin hK hP ls hl
  have hl : lv_has ls 2 [(0, .ref (a_c 0)), (1, .int p1)] := hl
  unfold fX0_isSaying at hf
  refine lv_iload_n C.1 C.2.1 (dk_at dkX0_isSaying 0 rfl) rfl (lv_at hl 1 rfl) ?_
  refine lv_if_lt (tgt := 16) C.1 C.2.1 (dk_at dkX0_isSaying 1 rfl) (by decide) (fun c1 => ?_) (fun c1 => ?_)
  · have hf := (if_pos c1).symm.trans hf
    refine lv_iconst (v := 0) C.1 C.2.1 (dk_at dkX0_isSaying 8 rfl) (by decide) ?_
    cases hf
    exact fin _ _ _ (dk_at dkX0_isSaying 9 rfl) rfl rfl
  · have hf := (if_neg c1).symm.trans hf
    refine lv_iload_n C.1 C.2.1 (dk_at dkX0_isSaying 2 rfl) rfl (lv_at hl 1 rfl) ?_
    refine lv_aload_n C.1 C.2.1 (dk_at dkX0_isSaying 3 rfl) rfl (lv_at hl 0 rfl) ?_
    refine r_get (v := .int (cSa c)) C hK hP (fun w h => List.mem_cons_of_mem _ (inlX0 w h)) 0 rfl rfl 3 (by decide) (List.mem_cons_of_mem _ (inr3 _ (List.mem_of_getElem? (i := 8) rfl))) rfl (dk_at dkX0_isSaying 4 rfl) ?_
    refine lv_icmp_ge (tgt := 16) C.1 C.2.1 (dk_at dkX0_isSaying 5 rfl) (by decide) (fun c2 => ?_) (fun c2 => ?_)
    · have hf := (if_pos c2).symm.trans hf
      refine lv_iconst (v := 0) C.1 C.2.1 (dk_at dkX0_isSaying 8 rfl) (by decide) ?_
      cases hf
      exact fin _ _ _ (dk_at dkX0_isSaying 9 rfl) rfl rfl
    · have hf := (if_neg c2).symm.trans hf
      refine lv_iconst (v := 1) C.1 C.2.1 (dk_at dkX0_isSaying 6 rfl) (by decide) ?_
      refine lv_goto (tgt := 17) C.1 C.2.1 (dk_at dkX0_isSaying 7 rfl) (by decide) ?_
      cases hf
      exact fin _ _ _ (dk_at dkX0_isSaying 9 rfl) rfl rfl
-- X0.isHearer
abbrev tbX0_isHearer : List (Nat × Instr × Nat) := [(0, .iload_n 1, 1), (1, .ifCond .lt 15, 3), (4, .iload_n 1, 1), (5, .aload_n 0, 1), (6, .getfield 40, 3), (9, .if_icmp .ge 7, 3), (12, .iconst 1, 1), (13, .goto 4, 3), (16, .iconst 0, 1), (17, .ireturn, 1)]
theorem dkX0_isHearer : dk cX0_isHearer tbX0_isHearer := dk_of (by decide +kernel)
abbrev cdX0_isHearer : Cond := Cond.code yX0_isHearer cX0_isHearer 2 (some .boolean)
abbrev rmX0_isHearer : Room := { frames := 0, cells := 0, slots := 0, locals := 0 }
theorem mwX0_isHearer : Cond.instanceMethod yX0_isHearer ∈ wsL_law ∧ Cond.selects RX0 yX0_isHearer yX0_isHearer ∈ wsL_law ∧ Cond.initialized RX0 ∈ wsL_law ∧ cdX0_isHearer ∈ wsL_law := ⟨inr19 _ (List.mem_of_getElem? (i := 4) rfl), inr19 _ (List.mem_of_getElem? (i := 5) rfl), inr1 _ (List.mem_of_getElem? (i := 18) rfl), inr19 _ (List.mem_of_getElem? (i := 6) rfl)⟩
theorem hdX0_isHearer : yX0_isHearer.cls = RX0 ∧ yX0_isHearer.cls ≠ "java/lang/invoke/MethodHandle" ∧ yX0_isHearer.cls ≠ "java/lang/invoke/VarHandle" ∧ (parseMethodDescriptor yX0_isHearer.desc).map (fun d => d.parameters.length) = some 1 := by decide +kernel
set_option maxHeartbeats 4000000 in
set_option maxRecDepth 100000 in
theorem kX0_isHearer (l : Launch) (g : Gx) (a_c : Nat → Nat) (c : CT) (p1 : Int32) (res : Int32) (hf : fX0_isHearer p1 c = some res) : Met l yX0_isHearer (cdX0_isHearer :: wsL_law) rmX0_isHearer (va_Pc [.ref (a_c 0), .int p1] (RO g (wC g a_c c))) (vp_Si (fun x => x = res)) 0 0 (fun _ => False) := by
  refine Met_roz (cc := cX0_isHearer) (maxL := 2) (by decide) rfl (Nat.le_of_ble_eq_true rfl) ?_
  intro P E Z Mi AR BE ME CO Q C fin hK hP ls hl
  have hl : lv_has ls 2 [(0, .ref (a_c 0)), (1, .int p1)] := hl
  unfold fX0_isHearer at hf
  refine lv_iload_n C.1 C.2.1 (dk_at dkX0_isHearer 0 rfl) rfl (lv_at hl 1 rfl) ?_
  refine lv_if_lt (tgt := 16) C.1 C.2.1 (dk_at dkX0_isHearer 1 rfl) (by decide) (fun c1 => ?_) (fun c1 => ?_)
  · have hf := (if_pos c1).symm.trans hf
    refine lv_iconst (v := 0) C.1 C.2.1 (dk_at dkX0_isHearer 8 rfl) (by decide) ?_
    cases hf
    exact fin _ _ _ (dk_at dkX0_isHearer 9 rfl) rfl rfl
  · have hf := (if_neg c1).symm.trans hf
    refine lv_iload_n C.1 C.2.1 (dk_at dkX0_isHearer 2 rfl) rfl (lv_at hl 1 rfl) ?_
    refine lv_aload_n C.1 C.2.1 (dk_at dkX0_isHearer 3 rfl) rfl (lv_at hl 0 rfl) ?_
    refine r_get (v := .int (cHe c)) C hK hP (fun w h => List.mem_cons_of_mem _ (inlX0 w h)) 0 rfl rfl 5 (by decide) (List.mem_cons_of_mem _ (inr3 _ (List.mem_of_getElem? (i := 9) rfl))) rfl (dk_at dkX0_isHearer 4 rfl) ?_
    refine lv_icmp_ge (tgt := 16) C.1 C.2.1 (dk_at dkX0_isHearer 5 rfl) (by decide) (fun c2 => ?_) (fun c2 => ?_)
    · have hf := (if_pos c2).symm.trans hf
      refine lv_iconst (v := 0) C.1 C.2.1 (dk_at dkX0_isHearer 8 rfl) (by decide) ?_
      cases hf
      exact fin _ _ _ (dk_at dkX0_isHearer 9 rfl) rfl rfl
    · have hf := (if_neg c2).symm.trans hf
      refine lv_iconst (v := 1) C.1 C.2.1 (dk_at dkX0_isHearer 6 rfl) (by decide) ?_
      refine lv_goto (tgt := 17) C.1 C.2.1 (dk_at dkX0_isHearer 7 rfl) (by decide) ?_
      cases hf
      exact fin _ _ _ (dk_at dkX0_isHearer 9 rfl) rfl rfl
-- X0.addPlain
abbrev tbX0_addPlain : List (Nat × Instr × Nat) := [(0, .iconst 1, 1), (1, .iload_n 1, 1), (2, .invokestatic 52, 3), (5, .ifCond .eq 19, 3), (8, .iconst 2, 1), (9, .iload_n 2, 1), (10, .invokestatic 52, 3), (13, .ifCond .eq 11, 3), (16, .iconst 3, 1), (17, .iload_n 3, 1), (18, .invokestatic 52, 3), (21, .ifCond .ne 5, 3), (24, .iconst (-1), 1), (25, .ireturn, 1), (26, .aload_n 0, 1), (27, .getfield 36, 3), (30, .iconst 5, 1), (31, .if_icmp .lt 6, 3), (34, .bipush (-3), 2), (36, .ireturn, 1), (37, .aload_n 0, 1), (38, .getfield 17, 3), (41, .aload_n 0, 1), (42, .getfield 36, 3), (45, .aaload, 1), (46, .astore 4, 2), (48, .aload 4, 2), (50, .iconst 0, 1), (51, .iconst 0, 1), (52, .iastore, 1), (53, .aload 4, 2), (55, .iconst 1, 1), (56, .iload_n 1, 1), (57, .iastore, 1), (58, .aload 4, 2), (60, .iconst 2, 1), (61, .iload_n 2, 1), (62, .iastore, 1), (63, .aload 4, 2), (65, .iconst 3, 1), (66, .iload_n 3, 1), (67, .iastore, 1), (68, .aload 4, 2), (70, .iconst 4, 1), (71, .iconst 0, 1), (72, .iastore, 1), (73, .aload_n 0, 1), (74, .dup, 1), (75, .getfield 36, 3), (78, .iconst 1, 1), (79, .iadd, 1), (80, .putfield 36, 3), (83, .aload_n 0, 1), (84, .getfield 36, 3), (87, .iconst 1, 1), (88, .isub, 1), (89, .ireturn, 1)]
theorem dkX0_addPlain : dk cX0_addPlain tbX0_addPlain := dk_of (by decide +kernel)
abbrev cdX0_addPlain : Cond := Cond.code yX0_addPlain cX0_addPlain 5 (some .int)
abbrev rmX0_addPlain : Room := { frames := 2, cells := 0, slots := 0, locals := 41 }
theorem mwX0_addPlain : Cond.instanceMethod yX0_addPlain ∈ wsL_law ∧ Cond.selects RX0 yX0_addPlain yX0_addPlain ∈ wsL_law ∧ Cond.initialized RX0 ∈ wsL_law ∧ cdX0_addPlain ∈ wsL_law := ⟨inr22 _ (List.mem_of_getElem? (i := 16) rfl), inr22 _ (List.mem_of_getElem? (i := 17) rfl), inr1 _ (List.mem_of_getElem? (i := 18) rfl), inr22 _ (List.mem_of_getElem? (i := 18) rfl)⟩
theorem hdX0_addPlain : yX0_addPlain.cls = RX0 ∧ yX0_addPlain.cls ≠ "java/lang/invoke/MethodHandle" ∧ yX0_addPlain.cls ≠ "java/lang/invoke/VarHandle" ∧ (parseMethodDescriptor yX0_addPlain.desc).map (fun d => d.parameters.length) = some 3 := by decide +kernel
set_option maxHeartbeats 4000000 in
set_option maxRecDepth 100000 in
theorem kX0_addPlain (l : Launch) (g : Gx) (sz : Nat) (a_c : Nat → Nat) (c : CT) (p1 : Int32) (p2 : Int32) (p3 : Int32) (res : Int32) (c_o : CT) (hf : fX0_addPlain p1 p2 p3 c = some (res, c_o)) : Met l yX0_addPlain (cdX0_addPlain :: wsL_law) rmX0_addPlain (va_Pc [.ref (a_c 0), .int p1, .int p2, .int p3] (RWp g sz (wC g a_c c))) (va_Qi (fun x (_ : Unit) => x = res) (fun _ => RWq g (va_A (wC g a_c c) sz) (wC g a_c c_o)) (va_A (wC g a_c c) sz)) 0 0 (va_A (wC g a_c c) sz) := by
  refine Met_rwi (cc := cX0_addPlain) (maxL := 5) (by decide) rfl (Nat.le_of_ble_eq_true rfl) ?_
  intro P E Z Mi AR BE ME CO A Q C hK hA fin w ls hl
  have hl : lv_has ls 5 [(0, .ref (a_c 0)), (1, .int p1), (2, .int p2), (3, .int p3)] := hl
  unfold fX0_addPlain at hf
  refine lv_iconst (v := 1) C.1 C.2.1 (dk_at dkX0_addPlain 0 rfl) (by decide) ?_
  refine lv_iload_n C.1 C.2.1 (dk_at dkX0_addPlain 1 rfl) rfl (lv_at hl 1 rfl) ?_
  obtain ⟨r1, hq2, hf⟩ := bd1_at hf
  refine r_st (As := [.int 1, .int p1]) (rest := []) C (kX3_fits l 1 p1 r1 hq2) (cwS0 C (inr22 _ (List.mem_of_getElem? (i := 19) rfl)) mwX3_fits hdX3_fits ⟨Nat.le_of_ble_eq_true rfl, Nat.le_of_ble_eq_true rfl⟩) rfl hl.1 rfl (Nat.le_of_ble_eq_true rfl) ⟨Nat.zero_le _, Nat.zero_le _⟩ (dk_at dkX0_addPlain 2 rfl) ?_
  refine lv_if_eq (tgt := 24) C.1 C.2.1 (dk_at dkX0_addPlain 3 rfl) (by decide) (fun c3 => ?_) (fun c3 => ?_)
  · have hf := (if_pos c3).symm.trans hf
    refine lv_iconst (v := (-1)) C.1 C.2.1 (dk_at dkX0_addPlain 12 rfl) (by decide) ?_
    cases hf
    exact fin _ _ _ _ _ (dk_at dkX0_addPlain 13 rfl) rfl w
  · have hf := (if_neg c3).symm.trans hf
    refine lv_iconst (v := 2) C.1 C.2.1 (dk_at dkX0_addPlain 4 rfl) (by decide) ?_
    refine lv_iload_n C.1 C.2.1 (dk_at dkX0_addPlain 5 rfl) rfl (lv_at hl 2 rfl) ?_
    obtain ⟨r4, hq5, hf⟩ := bd1_at hf
    refine r_st (As := [.int 2, .int p2]) (rest := []) C (kX3_fits l 2 p2 r4 hq5) (cwS0 C (inr22 _ (List.mem_of_getElem? (i := 19) rfl)) mwX3_fits hdX3_fits ⟨Nat.le_of_ble_eq_true rfl, Nat.le_of_ble_eq_true rfl⟩) rfl hl.1 rfl (Nat.le_of_ble_eq_true rfl) ⟨Nat.zero_le _, Nat.zero_le _⟩ (dk_at dkX0_addPlain 6 rfl) ?_
    refine lv_if_eq (tgt := 24) C.1 C.2.1 (dk_at dkX0_addPlain 7 rfl) (by decide) (fun c6 => ?_) (fun c6 => ?_)
    · have hf := (if_pos c6).symm.trans hf
      refine lv_iconst (v := (-1)) C.1 C.2.1 (dk_at dkX0_addPlain 12 rfl) (by decide) ?_
      cases hf
      exact fin _ _ _ _ _ (dk_at dkX0_addPlain 13 rfl) rfl w
    · have hf := (if_neg c6).symm.trans hf
      refine lv_iconst (v := 3) C.1 C.2.1 (dk_at dkX0_addPlain 8 rfl) (by decide) ?_
      refine lv_iload_n C.1 C.2.1 (dk_at dkX0_addPlain 9 rfl) rfl (lv_at hl 3 rfl) ?_
      obtain ⟨r7, hq8, hf⟩ := bd1_at hf
      refine r_st (As := [.int 3, .int p3]) (rest := []) C (kX3_fits l 3 p3 r7 hq8) (cwS0 C (inr22 _ (List.mem_of_getElem? (i := 19) rfl)) mwX3_fits hdX3_fits ⟨Nat.le_of_ble_eq_true rfl, Nat.le_of_ble_eq_true rfl⟩) rfl hl.1 rfl (Nat.le_of_ble_eq_true rfl) ⟨Nat.zero_le _, Nat.zero_le _⟩ (dk_at dkX0_addPlain 10 rfl) ?_
      refine lv_if_ne (tgt := 26) C.1 C.2.1 (dk_at dkX0_addPlain 11 rfl) (by decide) (fun c9 => ?_) (fun c9 => ?_)
      · have hf := (if_neg c9).symm.trans hf
        refine lv_aload_n C.1 C.2.1 (dk_at dkX0_addPlain 14 rfl) rfl (lv_at hl 0 rfl) ?_
        refine r_get (v := .int (cSa c)) C hK w.1 (fun w h => List.mem_cons_of_mem _ (inlX0 w h)) 0 rfl rfl 3 (by decide) (List.mem_cons_of_mem _ (inr3 _ (List.mem_of_getElem? (i := 8) rfl))) rfl (dk_at dkX0_addPlain 15 rfl) ?_
        refine lv_iconst (v := 5) C.1 C.2.1 (dk_at dkX0_addPlain 16 rfl) (by decide) ?_
        refine lv_icmp_lt (tgt := 37) C.1 C.2.1 (dk_at dkX0_addPlain 17 rfl) (by decide) (fun c10 => ?_) (fun c10 => ?_)
        · have hf := (if_pos c10).symm.trans hf
          refine lv_aload_n C.1 C.2.1 (dk_at dkX0_addPlain 20 rfl) rfl (lv_at hl 0 rfl) ?_
          refine r_get (v := .ref (a_c 2)) C hK w.1 (fun w h => List.mem_cons_of_mem _ (inlX0 w h)) 0 rfl rfl 2 (by decide) (List.mem_cons_of_mem _ (inr2 _ (List.mem_of_getElem? (i := 23) rfl))) rfl (dk_at dkX0_addPlain 21 rfl) ?_
          refine lv_aload_n C.1 C.2.1 (dk_at dkX0_addPlain 22 rfl) rfl (lv_at hl 0 rfl) ?_
          refine r_get (v := .int (cSa c)) C hK w.1 (fun w h => List.mem_cons_of_mem _ (inlX0 w h)) 0 rfl rfl 3 (by decide) (List.mem_cons_of_mem _ (inr3 _ (List.mem_of_getElem? (i := 8) rfl))) rfl (dk_at dkX0_addPlain 23 rfl) ?_
          obtain ⟨h11, hf⟩ := gd_at hf
          refine r_aldr (b := a_c (3 + ((cSa c).toNatClampNeg))) C hK w.1 2 rfl h11 rfl (dk_at dkX0_addPlain 24 rfl) ?_
          have h12 := in_lt h11
          refine lv_astore (lv' := [(4, .ref (a_c (3 + ((cSa c).toNatClampNeg)))), (0, .ref (a_c 0)), (1, .int p1), (2, .int p2), (3, .int p3)]) C.1 C.2.1 (dk_at dkX0_addPlain 25 rfl) hl (by decide) rfl (fun ls hl => ?_)
          refine lv_aload C.1 C.2.1 (dk_at dkX0_addPlain 26 rfl) (lv_at hl 0 rfl) ?_
          refine lv_iconst (v := 0) C.1 C.2.1 (dk_at dkX0_addPlain 27 rfl) (by decide) ?_
          refine lv_iconst (v := 0) C.1 C.2.1 (dk_at dkX0_addPlain 28 rfl) (by decide) ?_
          refine r_iast (k := 0) (a := a_c (3 + ((cSa c).toNatClampNeg))) (n := 5) (f := cTo c ((cSa c).toNatClampNeg)) C hK w (0 + (3 + ((cSa c).toNatClampNeg))) (by rcases lt5 h12 with h5 | h5 | h5 | h5 | h5 <;> rw [h5] <;> rfl) (in_c (by decide)) (by decide) (dk_at dkX0_addPlain 29 rfl) (fun H locs w => ?_)
          obtain ⟨c_13, ec_13⟩ : ∃ z : CT, z = cTo' c (va_up (cTo c) ((cSa c).toNatClampNeg) (upd (cTo c ((cSa c).toNatClampNeg)) 0 0)) := ⟨_, rfl⟩
          have hf := nm_at ec_13 hf
          have w : Wd g A Z.heap (wC g a_c c_13) H locs := by rw [ec_13]; rcases lt5 h12 with h5 | h5 | h5 | h5 | h5 <;> (rw [h5] at w; rw [h5]; exact w)
          refine lv_aload C.1 C.2.1 (dk_at dkX0_addPlain 30 rfl) (lv_at hl 0 rfl) ?_
          refine lv_iconst (v := 1) C.1 C.2.1 (dk_at dkX0_addPlain 31 rfl) (by decide) ?_
          refine lv_iload_n C.1 C.2.1 (dk_at dkX0_addPlain 32 rfl) rfl (lv_at hl 2 rfl) ?_
          refine r_iast (k := 1) (a := a_c (3 + ((cSa c).toNatClampNeg))) (n := 5) (f := cTo c_13 ((cSa c).toNatClampNeg)) C hK w (0 + (3 + ((cSa c).toNatClampNeg))) (by rcases lt5 h12 with h5 | h5 | h5 | h5 | h5 <;> rw [h5] <;> rfl) (in_c (by decide)) (by decide) (dk_at dkX0_addPlain 33 rfl) (fun H locs w => ?_)
          obtain ⟨c_14, ec_14⟩ : ∃ z : CT, z = cTo' c_13 (va_up (cTo c_13) ((cSa c).toNatClampNeg) (upd (cTo c_13 ((cSa c).toNatClampNeg)) 1 p1)) := ⟨_, rfl⟩
          have hf := nm_at ec_14 hf
          have w : Wd g A Z.heap (wC g a_c c_14) H locs := by rw [ec_14]; rcases lt5 h12 with h5 | h5 | h5 | h5 | h5 <;> (rw [h5] at w; rw [h5]; exact w)
          refine lv_aload C.1 C.2.1 (dk_at dkX0_addPlain 34 rfl) (lv_at hl 0 rfl) ?_
          refine lv_iconst (v := 2) C.1 C.2.1 (dk_at dkX0_addPlain 35 rfl) (by decide) ?_
          refine lv_iload_n C.1 C.2.1 (dk_at dkX0_addPlain 36 rfl) rfl (lv_at hl 3 rfl) ?_
          refine r_iast (k := 2) (a := a_c (3 + ((cSa c).toNatClampNeg))) (n := 5) (f := cTo c_14 ((cSa c).toNatClampNeg)) C hK w (0 + (3 + ((cSa c).toNatClampNeg))) (by rcases lt5 h12 with h5 | h5 | h5 | h5 | h5 <;> rw [h5] <;> rfl) (in_c (by decide)) (by decide) (dk_at dkX0_addPlain 37 rfl) (fun H locs w => ?_)
          obtain ⟨c_15, ec_15⟩ : ∃ z : CT, z = cTo' c_14 (va_up (cTo c_14) ((cSa c).toNatClampNeg) (upd (cTo c_14 ((cSa c).toNatClampNeg)) 2 p2)) := ⟨_, rfl⟩
          have hf := nm_at ec_15 hf
          have w : Wd g A Z.heap (wC g a_c c_15) H locs := by rw [ec_15]; rcases lt5 h12 with h5 | h5 | h5 | h5 | h5 <;> (rw [h5] at w; rw [h5]; exact w)
          refine lv_aload C.1 C.2.1 (dk_at dkX0_addPlain 38 rfl) (lv_at hl 0 rfl) ?_
          refine lv_iconst (v := 3) C.1 C.2.1 (dk_at dkX0_addPlain 39 rfl) (by decide) ?_
          refine lv_iload_n C.1 C.2.1 (dk_at dkX0_addPlain 40 rfl) rfl (lv_at hl 4 rfl) ?_
          refine r_iast (k := 3) (a := a_c (3 + ((cSa c).toNatClampNeg))) (n := 5) (f := cTo c_15 ((cSa c).toNatClampNeg)) C hK w (0 + (3 + ((cSa c).toNatClampNeg))) (by rcases lt5 h12 with h5 | h5 | h5 | h5 | h5 <;> rw [h5] <;> rfl) (in_c (by decide)) (by decide) (dk_at dkX0_addPlain 41 rfl) (fun H locs w => ?_)
          obtain ⟨c_16, ec_16⟩ : ∃ z : CT, z = cTo' c_15 (va_up (cTo c_15) ((cSa c).toNatClampNeg) (upd (cTo c_15 ((cSa c).toNatClampNeg)) 3 p3)) := ⟨_, rfl⟩
          have hf := nm_at ec_16 hf
          have w : Wd g A Z.heap (wC g a_c c_16) H locs := by rw [ec_16]; rcases lt5 h12 with h5 | h5 | h5 | h5 | h5 <;> (rw [h5] at w; rw [h5]; exact w)
          refine lv_aload C.1 C.2.1 (dk_at dkX0_addPlain 42 rfl) (lv_at hl 0 rfl) ?_
          refine lv_iconst (v := 4) C.1 C.2.1 (dk_at dkX0_addPlain 43 rfl) (by decide) ?_
          refine lv_iconst (v := 0) C.1 C.2.1 (dk_at dkX0_addPlain 44 rfl) (by decide) ?_
          refine r_iast (k := 4) (a := a_c (3 + ((cSa c).toNatClampNeg))) (n := 5) (f := cTo c_16 ((cSa c).toNatClampNeg)) C hK w (0 + (3 + ((cSa c).toNatClampNeg))) (by rcases lt5 h12 with h5 | h5 | h5 | h5 | h5 <;> rw [h5] <;> rfl) (in_c (by decide)) (by decide) (dk_at dkX0_addPlain 45 rfl) (fun H locs w => ?_)
          obtain ⟨c_17, ec_17⟩ : ∃ z : CT, z = cTo' c_16 (va_up (cTo c_16) ((cSa c).toNatClampNeg) (upd (cTo c_16 ((cSa c).toNatClampNeg)) 4 0)) := ⟨_, rfl⟩
          have hf := nm_at ec_17 hf
          have w : Wd g A Z.heap (wC g a_c c_17) H locs := by rw [ec_17]; rcases lt5 h12 with h5 | h5 | h5 | h5 | h5 <;> (rw [h5] at w; rw [h5]; exact w)
          refine lv_aload_n C.1 C.2.1 (dk_at dkX0_addPlain 46 rfl) rfl (lv_at hl 1 rfl) ?_
          refine lv_dup C.1 C.2.1 (dk_at dkX0_addPlain 47 rfl) rfl ?_
          refine r_get (v := .int (cSa c_17)) C hK w.1 (fun w h => List.mem_cons_of_mem _ (inlX0 w h)) 0 rfl rfl 3 (by decide) (List.mem_cons_of_mem _ (inr3 _ (List.mem_of_getElem? (i := 8) rfl))) rfl (dk_at dkX0_addPlain 48 rfl) ?_
          refine lv_iconst (v := 1) C.1 C.2.1 (dk_at dkX0_addPlain 49 rfl) (by decide) ?_
          refine lv_iadd C.1 C.2.1 (dk_at dkX0_addPlain 50 rfl) ?_
          refine lv_topi (fun x18 ex18 => ?_)
          have hf := nm_at ex18 hf
          refine r_put (v := .int x18) C hK w (fun w h => List.mem_cons_of_mem _ (inlX0 w h)) tyX0 tyX0_ok nmX0 0 rfl rfl 3 (by decide) (List.mem_cons_of_mem _ (inr3 _ (List.mem_of_getElem? (i := 8) rfl))) rfl rfl rfl (Nat.le_of_ble_eq_true rfl) (dk_at dkX0_addPlain 51 rfl) (fun H locs w => ?_)
          obtain ⟨c_19, ec_19⟩ : ∃ z : CT, z = cSa' c_17 x18 := ⟨_, rfl⟩
          have hf := nm_at ec_19 hf
          have w : Wd g A Z.heap (wC g a_c c_19) H locs := by rw [ec_19]; exact w
          refine lv_aload_n C.1 C.2.1 (dk_at dkX0_addPlain 52 rfl) rfl (lv_at hl 1 rfl) ?_
          refine r_get (v := .int (cSa c_19)) C hK w.1 (fun w h => List.mem_cons_of_mem _ (inlX0 w h)) 0 rfl rfl 3 (by decide) (List.mem_cons_of_mem _ (inr3 _ (List.mem_of_getElem? (i := 8) rfl))) rfl (dk_at dkX0_addPlain 53 rfl) ?_
          refine lv_iconst (v := 1) C.1 C.2.1 (dk_at dkX0_addPlain 54 rfl) (by decide) ?_
          refine lv_isub C.1 C.2.1 (dk_at dkX0_addPlain 55 rfl) ?_
          refine lv_topi (fun x20 ex20 => ?_)
          have hf := nm_at ex20 hf
          cases hf
          exact fin _ _ _ _ _ (dk_at dkX0_addPlain 56 rfl) rfl w
        · have hf := (if_neg c10).symm.trans hf
          refine lv_bipush (v := (-3)) C.1 C.2.1 (dk_at dkX0_addPlain 18 rfl) (by decide) ?_
          cases hf
          exact fin _ _ _ _ _ (dk_at dkX0_addPlain 19 rfl) rfl w
      · have hf := (if_pos c9).symm.trans hf
        refine lv_iconst (v := (-1)) C.1 C.2.1 (dk_at dkX0_addPlain 12 rfl) (by decide) ?_
        cases hf
        exact fin _ _ _ _ _ (dk_at dkX0_addPlain 13 rfl) rfl w
-- X0.windyHours
abbrev tbX0_windyHours : List (Nat × Instr × Nat) := [(0, .iconst 0, 1), (1, .istore_n 1, 1), (2, .iconst 0, 1), (3, .istore_n 2, 1), (4, .iload_n 2, 1), (5, .bipush 10, 2), (7, .if_icmp .ge 25, 3), (10, .aload_n 0, 1), (11, .getfield 9, 3), (14, .iload_n 2, 1), (15, .iaload, 1), (16, .iconst 4, 1), (17, .if_icmp .eq 9, 3), (20, .iload_n 1, 1), (21, .iconst 1, 1), (22, .iload_n 2, 1), (23, .ishl, 1), (24, .ior, 1), (25, .istore_n 1, 1), (26, .iinc 2 1, 3), (29, .goto (-25), 3), (32, .iload_n 1, 1), (33, .ireturn, 1)]
theorem dkX0_windyHours : dk cX0_windyHours tbX0_windyHours := dk_of (by decide +kernel)
abbrev cdX0_windyHours : Cond := Cond.code yX0_windyHours cX0_windyHours 3 (some .int)
abbrev rmX0_windyHours : Room := { frames := 0, cells := 0, slots := 0, locals := 0 }
theorem mwX0_windyHours : Cond.instanceMethod yX0_windyHours ∈ wsL_law ∧ Cond.selects RX0 yX0_windyHours yX0_windyHours ∈ wsL_law ∧ Cond.initialized RX0 ∈ wsL_law ∧ cdX0_windyHours ∈ wsL_law := ⟨inr16 _ (List.mem_of_getElem? (i := 20) rfl), inr16 _ (List.mem_of_getElem? (i := 21) rfl), inr1 _ (List.mem_of_getElem? (i := 18) rfl), inr16 _ (List.mem_of_getElem? (i := 22) rfl)⟩
theorem hdX0_windyHours : yX0_windyHours.cls = RX0 ∧ yX0_windyHours.cls ≠ "java/lang/invoke/MethodHandle" ∧ yX0_windyHours.cls ≠ "java/lang/invoke/VarHandle" ∧ (parseMethodDescriptor yX0_windyHours.desc).map (fun d => d.parameters.length) = some 0 := by decide +kernel
set_option maxHeartbeats 4000000 in
set_option maxRecDepth 100000 in
theorem kX0_windyHours (l : Launch) (g : Gx) (a_c : Nat → Nat) (c : CT) (res : Int32) (hf : fX0_windyHours c = some res) : Met l yX0_windyHours (cdX0_windyHours :: wsL_law) rmX0_windyHours (va_Pc [.ref (a_c 0)] (RO g (wC g a_c c))) (vp_Si (fun x => x = res)) 0 0 (fun _ => False) := by
  refine Met_roi (cc := cX0_windyHours) (maxL := 3) (by decide) rfl (Nat.le_of_ble_eq_true rfl) ?_
  intro P E Z Mi AR BE ME CO Q C fin hK hP ls hl
  have hl : lv_has ls 3 [(0, .ref (a_c 0))] := hl
  unfold fX0_windyHours at hf
  refine lv_iconst (v := 0) C.1 C.2.1 (dk_at dkX0_windyHours 0 rfl) (by decide) ?_
  refine lv_istore_n (lv' := [(1, .int 0), (0, .ref (a_c 0))]) C.1 C.2.1 (dk_at dkX0_windyHours 1 rfl) rfl hl (by decide) rfl (fun ls hl => ?_)
  refine lv_iconst (v := 0) C.1 C.2.1 (dk_at dkX0_windyHours 2 rfl) (by decide) ?_
  refine lv_istore_n (lv' := [(2, .int 0), (1, .int 0), (0, .ref (a_c 0))]) C.1 C.2.1 (dk_at dkX0_windyHours 3 rfl) rfl hl (by decide) rfl (fun ls hl => ?_)
  have L3 : ∀ (K : Int32 → Int32 → Option (Int32)), (∀ (v1 : Int32) (v2 : Int32) (ls : Array Slot), lv_has ls 3 [(1, .int v2)] → K v1 v2 = some res → W P l E rmX0_windyHours Z Mi AR BE ME CO Z.heap [] 0 0 Q (F0 Mi 32 ls [])) → ∀ (n : Nat), ∀ (v1 : Int32) (v2 : Int32) (ls : Array Slot), lv_has ls 3 [(2, .int v1), (1, .int v2), (0, .ref (a_c 0))] → fX0_windyHours_L4 c K n v1 v2 = some res → W P l E rmX0_windyHours Z Mi AR BE ME CO Z.heap [] 0 0 Q (F0 Mi 4 ls []) := by
    intro K hKe n
    induction n with
    | zero => intro v1 v2 ls hl hf; cases hf
    | succ n ih =>
      intro v1 v2 ls hl hf
      rw [fX0_windyHours_L4] at hf
      refine lv_iload_n C.1 C.2.1 (dk_at dkX0_windyHours 4 rfl) rfl (lv_at hl 0 rfl) ?_
      refine lv_bipush (v := 10) C.1 C.2.1 (dk_at dkX0_windyHours 5 rfl) (by decide) ?_
      refine lv_icmp_ge (tgt := 32) C.1 C.2.1 (dk_at dkX0_windyHours 6 rfl) (by decide) (fun c4 => ?_) (fun c4 => ?_)
      · have hf := (if_pos c4).symm.trans hf
        exact hKe v1 v2 _ (lv_sub hl [1] rfl) hf
      · have hf := (if_neg c4).symm.trans hf
        refine lv_aload_n C.1 C.2.1 (dk_at dkX0_windyHours 7 rfl) rfl (lv_at hl 2 rfl) ?_
        refine r_get (v := .ref (a_c 1)) C hK hP (fun w h => List.mem_cons_of_mem _ (inlX0 w h)) 0 rfl rfl 1 (by decide) (List.mem_cons_of_mem _ (inr2 _ (List.mem_of_getElem? (i := 21) rfl))) rfl (dk_at dkX0_windyHours 8 rfl) ?_
        refine lv_iload_n C.1 C.2.1 (dk_at dkX0_windyHours 9 rfl) rfl (lv_at hl 0 rfl) ?_
        obtain ⟨h5, hf⟩ := gd_at hf
        refine r_iald (k := v1.toNatClampNeg) (f := (cWi c)) C hK hP 1 rfl h5 rfl (dk_at dkX0_windyHours 10 rfl) ?_
        refine lv_topi (fun x6 ex6 => ?_)
        have hf := nm_at ex6 hf
        refine lv_iconst (v := 4) C.1 C.2.1 (dk_at dkX0_windyHours 11 rfl) (by decide) ?_
        refine lv_icmp_eq (tgt := 26) C.1 C.2.1 (dk_at dkX0_windyHours 12 rfl) (by decide) (fun c7 => ?_) (fun c7 => ?_)
        · have hf := (if_pos c7).symm.trans hf
          obtain ⟨x8, ex8⟩ : ∃ z : Int32, z = v1 + 1 := ⟨_, rfl⟩
          have hf := nm_at ex8 hf
          refine lv_iinc (v := x8) (lv' := [(2, .int x8), (1, .int v2), (0, .ref (a_c 0))]) C.1 C.2.1 (dk_at dkX0_windyHours 19 rfl) hl (k := 0) rfl (by rw [ex8]; rfl) (by decide) rfl (fun ls hl => ?_)
          refine lv_goto (tgt := 4) C.1 C.2.1 (dk_at dkX0_windyHours 20 rfl) (by decide) ?_
          exact ih x8 v2 _ (lv_sub hl [0, 1, 2] rfl) hf
        · have hf := (if_neg c7).symm.trans hf
          refine lv_iload_n C.1 C.2.1 (dk_at dkX0_windyHours 13 rfl) rfl (lv_at hl 1 rfl) ?_
          refine lv_iconst (v := 1) C.1 C.2.1 (dk_at dkX0_windyHours 14 rfl) (by decide) ?_
          refine lv_iload_n C.1 C.2.1 (dk_at dkX0_windyHours 15 rfl) rfl (lv_at hl 0 rfl) ?_
          refine lv_ishl C.1 C.2.1 (dk_at dkX0_windyHours 16 rfl) ?_
          refine lv_ior C.1 C.2.1 (dk_at dkX0_windyHours 17 rfl) ?_
          refine lv_topi (fun x9 ex9 => ?_)
          have hf := nm_at ex9 hf
          refine lv_istore_n (lv' := [(1, .int x9), (2, .int v1), (0, .ref (a_c 0))]) C.1 C.2.1 (dk_at dkX0_windyHours 18 rfl) rfl hl (by decide) rfl (fun ls hl => ?_)
          obtain ⟨x10, ex10⟩ : ∃ z : Int32, z = v1 + 1 := ⟨_, rfl⟩
          have hf := nm_at ex10 hf
          refine lv_iinc (v := x10) (lv' := [(2, .int x10), (1, .int x9), (0, .ref (a_c 0))]) C.1 C.2.1 (dk_at dkX0_windyHours 19 rfl) hl (k := 1) rfl (by rw [ex10]; rfl) (by decide) rfl (fun ls hl => ?_)
          refine lv_goto (tgt := 4) C.1 C.2.1 (dk_at dkX0_windyHours 20 rfl) (by decide) ?_
          exact ih x10 x9 _ (lv_sub hl [0, 1, 2] rfl) hf
  refine L3 _ ?_ 4096 0 0 _ (lv_sub hl [0, 1, 2] rfl) hf
  clear hf
  intro v1 v2 ls hl hf
  refine lv_iload_n C.1 C.2.1 (dk_at dkX0_windyHours 21 rfl) rfl (lv_at hl 0 rfl) ?_
  cases hf
  exact fin _ _ _ (dk_at dkX0_windyHours 22 rfl) rfl
-- X0.hearersIn
abbrev tbX0_hearersIn : List (Nat × Instr × Nat) := [(0, .iconst 0, 1), (1, .istore_n 2, 1), (2, .iconst 0, 1), (3, .istore_n 3, 1), (4, .iload_n 3, 1), (5, .aload_n 0, 1), (6, .getfield 40, 3), (9, .if_icmp .ge 25, 3), (12, .aload_n 0, 1), (13, .getfield 20, 3), (16, .iload_n 3, 1), (17, .iaload, 1), (18, .invokestatic 58, 3), (21, .iload_n 1, 1), (22, .if_icmp .ne 6, 3), (25, .iinc 2 1, 3), (28, .iinc 3 1, 3), (31, .goto (-27), 3), (34, .iload_n 2, 1), (35, .ireturn, 1)]
theorem dkX0_hearersIn : dk cX0_hearersIn tbX0_hearersIn := dk_of (by decide +kernel)
abbrev cdX0_hearersIn : Cond := Cond.code yX0_hearersIn cX0_hearersIn 4 (some .int)
abbrev rmX0_hearersIn : Room := { frames := 1, cells := 0, slots := 0, locals := 20 }
theorem mwX0_hearersIn : Cond.instanceMethod yX0_hearersIn ∈ wsL_law ∧ Cond.selects RX0 yX0_hearersIn yX0_hearersIn ∈ wsL_law ∧ Cond.initialized RX0 ∈ wsL_law ∧ cdX0_hearersIn ∈ wsL_law := ⟨inr27 _ (List.mem_of_getElem? (i := 10) rfl), inr27 _ (List.mem_of_getElem? (i := 11) rfl), inr1 _ (List.mem_of_getElem? (i := 18) rfl), inr27 _ (List.mem_of_getElem? (i := 12) rfl)⟩
theorem hdX0_hearersIn : yX0_hearersIn.cls = RX0 ∧ yX0_hearersIn.cls ≠ "java/lang/invoke/MethodHandle" ∧ yX0_hearersIn.cls ≠ "java/lang/invoke/VarHandle" ∧ (parseMethodDescriptor yX0_hearersIn.desc).map (fun d => d.parameters.length) = some 1 := by decide +kernel
set_option maxHeartbeats 4000000 in
set_option maxRecDepth 100000 in
theorem kX0_hearersIn (l : Launch) (g : Gx) (a_c : Nat → Nat) (c : CT) (p1 : Int32) (res : Int32) (hf : fX0_hearersIn p1 c = some res) : Met l yX0_hearersIn (cdX0_hearersIn :: wsL_law) rmX0_hearersIn (va_Pc [.ref (a_c 0), .int p1] (RO g (wC g a_c c))) (vp_Si (fun x => x = res)) 0 0 (fun _ => False) := by
  refine Met_roi (cc := cX0_hearersIn) (maxL := 4) (by decide) rfl (Nat.le_of_ble_eq_true rfl) ?_
  intro P E Z Mi AR BE ME CO Q C fin hK hP ls hl
  have hl : lv_has ls 4 [(0, .ref (a_c 0)), (1, .int p1)] := hl
  unfold fX0_hearersIn at hf
  refine lv_iconst (v := 0) C.1 C.2.1 (dk_at dkX0_hearersIn 0 rfl) (by decide) ?_
  refine lv_istore_n (lv' := [(2, .int 0), (0, .ref (a_c 0)), (1, .int p1)]) C.1 C.2.1 (dk_at dkX0_hearersIn 1 rfl) rfl hl (by decide) rfl (fun ls hl => ?_)
  refine lv_iconst (v := 0) C.1 C.2.1 (dk_at dkX0_hearersIn 2 rfl) (by decide) ?_
  refine lv_istore_n (lv' := [(3, .int 0), (2, .int 0), (0, .ref (a_c 0)), (1, .int p1)]) C.1 C.2.1 (dk_at dkX0_hearersIn 3 rfl) rfl hl (by decide) rfl (fun ls hl => ?_)
  have L3 : ∀ (K : Int32 → Int32 → Option (Int32)), (∀ (v1 : Int32) (v2 : Int32) (ls : Array Slot), lv_has ls 4 [(2, .int v2)] → K v1 v2 = some res → W P l E rmX0_hearersIn Z Mi AR BE ME CO Z.heap [] 0 0 Q (F0 Mi 34 ls [])) → ∀ (n : Nat), ∀ (v1 : Int32) (v2 : Int32) (ls : Array Slot), lv_has ls 4 [(3, .int v1), (2, .int v2), (0, .ref (a_c 0)), (1, .int p1)] → fX0_hearersIn_L4 c p1 K n v1 v2 = some res → W P l E rmX0_hearersIn Z Mi AR BE ME CO Z.heap [] 0 0 Q (F0 Mi 4 ls []) := by
    intro K hKe n
    induction n with
    | zero => intro v1 v2 ls hl hf; cases hf
    | succ n ih =>
      intro v1 v2 ls hl hf
      rw [fX0_hearersIn_L4] at hf
      refine lv_iload_n C.1 C.2.1 (dk_at dkX0_hearersIn 4 rfl) rfl (lv_at hl 0 rfl) ?_
      refine lv_aload_n C.1 C.2.1 (dk_at dkX0_hearersIn 5 rfl) rfl (lv_at hl 2 rfl) ?_
      refine r_get (v := .int (cHe c)) C hK hP (fun w h => List.mem_cons_of_mem _ (inlX0 w h)) 0 rfl rfl 5 (by decide) (List.mem_cons_of_mem _ (inr3 _ (List.mem_of_getElem? (i := 9) rfl))) rfl (dk_at dkX0_hearersIn 6 rfl) ?_
      refine lv_icmp_ge (tgt := 34) C.1 C.2.1 (dk_at dkX0_hearersIn 7 rfl) (by decide) (fun c4 => ?_) (fun c4 => ?_)
      · have hf := (if_pos c4).symm.trans hf
        exact hKe v1 v2 _ (lv_sub hl [1] rfl) hf
      · have hf := (if_neg c4).symm.trans hf
        refine lv_aload_n C.1 C.2.1 (dk_at dkX0_hearersIn 8 rfl) rfl (lv_at hl 2 rfl) ?_
        refine r_get (v := .ref (a_c 8)) C hK hP (fun w h => List.mem_cons_of_mem _ (inlX0 w h)) 0 rfl rfl 4 (by decide) (List.mem_cons_of_mem _ (inr3 _ (List.mem_of_getElem? (i := 0) rfl))) rfl (dk_at dkX0_hearersIn 9 rfl) ?_
        refine lv_iload_n C.1 C.2.1 (dk_at dkX0_hearersIn 10 rfl) rfl (lv_at hl 0 rfl) ?_
        obtain ⟨h5, hf⟩ := gd_at hf
        refine r_iald (k := v1.toNatClampNeg) (f := (cAt c)) C hK hP 8 rfl h5 rfl (dk_at dkX0_hearersIn 11 rfl) ?_
        refine lv_topi (fun x6 ex6 => ?_)
        have hf := nm_at ex6 hf
        obtain ⟨r7, hq8, hf⟩ := bd1_at hf
        refine r_st (As := [.int x6]) (rest := []) C (kX3_placeOf l x6 r7 hq8) (cwS0 C (inr27 _ (List.mem_of_getElem? (i := 13) rfl)) mwX3_placeOf hdX3_placeOf ⟨Nat.le_of_ble_eq_true rfl, Nat.le_of_ble_eq_true rfl⟩) rfl hl.1 rfl (Nat.le_of_ble_eq_true rfl) ⟨Nat.zero_le _, Nat.zero_le _⟩ (dk_at dkX0_hearersIn 12 rfl) ?_
        refine lv_iload_n C.1 C.2.1 (dk_at dkX0_hearersIn 13 rfl) rfl (lv_at hl 3 rfl) ?_
        refine lv_icmp_ne (tgt := 28) C.1 C.2.1 (dk_at dkX0_hearersIn 14 rfl) (by decide) (fun c9 => ?_) (fun c9 => ?_)
        · have hf := (if_neg c9).symm.trans hf
          obtain ⟨x10, ex10⟩ : ∃ z : Int32, z = v1 + 1 := ⟨_, rfl⟩
          have hf := nm_at ex10 hf
          refine lv_iinc (v := x10) (lv' := [(3, .int x10), (2, .int v2), (0, .ref (a_c 0)), (1, .int p1)]) C.1 C.2.1 (dk_at dkX0_hearersIn 16 rfl) hl (k := 0) rfl (by rw [ex10]; rfl) (by decide) rfl (fun ls hl => ?_)
          refine lv_goto (tgt := 4) C.1 C.2.1 (dk_at dkX0_hearersIn 17 rfl) (by decide) ?_
          exact ih x10 v2 _ (lv_sub hl [0, 1, 2, 3] rfl) hf
        · have hf := (if_pos c9).symm.trans hf
          obtain ⟨x11, ex11⟩ : ∃ z : Int32, z = v2 + 1 := ⟨_, rfl⟩
          have hf := nm_at ex11 hf
          refine lv_iinc (v := x11) (lv' := [(2, .int x11), (3, .int v1), (0, .ref (a_c 0)), (1, .int p1)]) C.1 C.2.1 (dk_at dkX0_hearersIn 15 rfl) hl (k := 1) rfl (by rw [ex11]; rfl) (by decide) rfl (fun ls hl => ?_)
          obtain ⟨x12, ex12⟩ : ∃ z : Int32, z = v1 + 1 := ⟨_, rfl⟩
          have hf := nm_at ex12 hf
          refine lv_iinc (v := x12) (lv' := [(3, .int x12), (2, .int x11), (0, .ref (a_c 0)), (1, .int p1)]) C.1 C.2.1 (dk_at dkX0_hearersIn 16 rfl) hl (k := 1) rfl (by rw [ex12]; rfl) (by decide) rfl (fun ls hl => ?_)
          refine lv_goto (tgt := 4) C.1 C.2.1 (dk_at dkX0_hearersIn 17 rfl) (by decide) ?_
          exact ih x12 x11 _ (lv_sub hl [0, 1, 2, 3] rfl) hf
  refine L3 _ ?_ 4096 0 0 _ (lv_sub hl [0, 1, 2, 3] rfl) hf
  clear hf
  intro v1 v2 ls hl hf
  refine lv_iload_n C.1 C.2.1 (dk_at dkX0_hearersIn 18 rfl) rfl (lv_at hl 0 rfl) ?_
  cases hf
  exact fin _ _ _ (dk_at dkX0_hearersIn 19 rfl) rfl
-- X0.allForces
abbrev tbX0_allForces : List (Nat × Instr × Nat) := [(0, .iconst 0, 1), (1, .istore_n 1, 1), (2, .iconst 0, 1), (3, .istore_n 2, 1), (4, .iload_n 2, 1), (5, .aload_n 0, 1), (6, .getfield 36, 3), (9, .if_icmp .ge 20, 3), (12, .iload_n 1, 1), (13, .aload_n 0, 1), (14, .getfield 17, 3), (17, .iload_n 2, 1), (18, .aaload, 1), (19, .iconst 3, 1), (20, .iaload, 1), (21, .iadd, 1), (22, .istore_n 1, 1), (23, .iinc 2 1, 3), (26, .goto (-22), 3), (29, .iload_n 1, 1), (30, .ireturn, 1)]
theorem dkX0_allForces : dk cX0_allForces tbX0_allForces := dk_of (by decide +kernel)
abbrev cdX0_allForces : Cond := Cond.code yX0_allForces cX0_allForces 3 (some .int)
abbrev rmX0_allForces : Room := { frames := 0, cells := 0, slots := 0, locals := 0 }
theorem mwX0_allForces : Cond.instanceMethod yX0_allForces ∈ wsL_law ∧ Cond.selects RX0 yX0_allForces yX0_allForces ∈ wsL_law ∧ Cond.initialized RX0 ∈ wsL_law ∧ cdX0_allForces ∈ wsL_law := ⟨inr42 _ (List.mem_of_getElem? (i := 13) rfl), inr42 _ (List.mem_of_getElem? (i := 14) rfl), inr1 _ (List.mem_of_getElem? (i := 18) rfl), inr42 _ (List.mem_of_getElem? (i := 15) rfl)⟩
theorem hdX0_allForces : yX0_allForces.cls = RX0 ∧ yX0_allForces.cls ≠ "java/lang/invoke/MethodHandle" ∧ yX0_allForces.cls ≠ "java/lang/invoke/VarHandle" ∧ (parseMethodDescriptor yX0_allForces.desc).map (fun d => d.parameters.length) = some 0 := by decide +kernel
set_option maxHeartbeats 4000000 in
set_option maxRecDepth 100000 in
theorem kX0_allForces (l : Launch) (g : Gx) (a_c : Nat → Nat) (c : CT) (res : Int32) (hf : fX0_allForces c = some res) : Met l yX0_allForces (cdX0_allForces :: wsL_law) rmX0_allForces (va_Pc [.ref (a_c 0)] (RO g (wC g a_c c))) (vp_Si (fun x => x = res)) 0 0 (fun _ => False) := by
  refine Met_roi (cc := cX0_allForces) (maxL := 3) (by decide) rfl (Nat.le_of_ble_eq_true rfl) ?_
  intro P E Z Mi AR BE ME CO Q C fin hK hP ls hl
  have hl : lv_has ls 3 [(0, .ref (a_c 0))] := hl
  unfold fX0_allForces at hf
  refine lv_iconst (v := 0) C.1 C.2.1 (dk_at dkX0_allForces 0 rfl) (by decide) ?_
  refine lv_istore_n (lv' := [(1, .int 0), (0, .ref (a_c 0))]) C.1 C.2.1 (dk_at dkX0_allForces 1 rfl) rfl hl (by decide) rfl (fun ls hl => ?_)
  refine lv_iconst (v := 0) C.1 C.2.1 (dk_at dkX0_allForces 2 rfl) (by decide) ?_
  refine lv_istore_n (lv' := [(2, .int 0), (1, .int 0), (0, .ref (a_c 0))]) C.1 C.2.1 (dk_at dkX0_allForces 3 rfl) rfl hl (by decide) rfl (fun ls hl => ?_)
  have L3 : ∀ (K : Int32 → Int32 → Option (Int32)), (∀ (v1 : Int32) (v2 : Int32) (ls : Array Slot), lv_has ls 3 [(1, .int v2)] → K v1 v2 = some res → W P l E rmX0_allForces Z Mi AR BE ME CO Z.heap [] 0 0 Q (F0 Mi 29 ls [])) → ∀ (n : Nat), ∀ (v1 : Int32) (v2 : Int32) (ls : Array Slot), lv_has ls 3 [(2, .int v1), (1, .int v2), (0, .ref (a_c 0))] → fX0_allForces_L4 c K n v1 v2 = some res → W P l E rmX0_allForces Z Mi AR BE ME CO Z.heap [] 0 0 Q (F0 Mi 4 ls []) := by
    intro K hKe n
    induction n with
    | zero => intro v1 v2 ls hl hf; cases hf
    | succ n ih =>
      intro v1 v2 ls hl hf
      rw [fX0_allForces_L4] at hf
      refine lv_iload_n C.1 C.2.1 (dk_at dkX0_allForces 4 rfl) rfl (lv_at hl 0 rfl) ?_
      refine lv_aload_n C.1 C.2.1 (dk_at dkX0_allForces 5 rfl) rfl (lv_at hl 2 rfl) ?_
      refine r_get (v := .int (cSa c)) C hK hP (fun w h => List.mem_cons_of_mem _ (inlX0 w h)) 0 rfl rfl 3 (by decide) (List.mem_cons_of_mem _ (inr3 _ (List.mem_of_getElem? (i := 8) rfl))) rfl (dk_at dkX0_allForces 6 rfl) ?_
      refine lv_icmp_ge (tgt := 29) C.1 C.2.1 (dk_at dkX0_allForces 7 rfl) (by decide) (fun c4 => ?_) (fun c4 => ?_)
      · have hf := (if_pos c4).symm.trans hf
        exact hKe v1 v2 _ (lv_sub hl [1] rfl) hf
      · have hf := (if_neg c4).symm.trans hf
        refine lv_iload_n C.1 C.2.1 (dk_at dkX0_allForces 8 rfl) rfl (lv_at hl 1 rfl) ?_
        refine lv_aload_n C.1 C.2.1 (dk_at dkX0_allForces 9 rfl) rfl (lv_at hl 2 rfl) ?_
        refine r_get (v := .ref (a_c 2)) C hK hP (fun w h => List.mem_cons_of_mem _ (inlX0 w h)) 0 rfl rfl 2 (by decide) (List.mem_cons_of_mem _ (inr2 _ (List.mem_of_getElem? (i := 23) rfl))) rfl (dk_at dkX0_allForces 10 rfl) ?_
        refine lv_iload_n C.1 C.2.1 (dk_at dkX0_allForces 11 rfl) rfl (lv_at hl 0 rfl) ?_
        obtain ⟨h5, hf⟩ := gd_at hf
        refine r_aldr (b := a_c (3 + v1.toNatClampNeg)) C hK hP 2 rfl h5 rfl (dk_at dkX0_allForces 12 rfl) ?_
        have h6 := in_lt h5
        refine lv_iconst (v := 3) C.1 C.2.1 (dk_at dkX0_allForces 13 rfl) (by decide) ?_
        refine r_iald (k := 3) (a := a_c (3 + v1.toNatClampNeg)) (n := 5) (f := cTo c v1.toNatClampNeg) C hK hP (0 + (3 + v1.toNatClampNeg)) (by rcases lt5 h6 with h5 | h5 | h5 | h5 | h5 <;> rw [h5] <;> rfl) (in_c (by decide)) (by decide) (dk_at dkX0_allForces 14 rfl) ?_
        refine lv_iadd C.1 C.2.1 (dk_at dkX0_allForces 15 rfl) ?_
        refine lv_topi (fun x7 ex7 => ?_)
        have hf := nm_at ex7 hf
        refine lv_istore_n (lv' := [(1, .int x7), (2, .int v1), (0, .ref (a_c 0))]) C.1 C.2.1 (dk_at dkX0_allForces 16 rfl) rfl hl (by decide) rfl (fun ls hl => ?_)
        obtain ⟨x8, ex8⟩ : ∃ z : Int32, z = v1 + 1 := ⟨_, rfl⟩
        have hf := nm_at ex8 hf
        refine lv_iinc (v := x8) (lv' := [(2, .int x8), (1, .int x7), (0, .ref (a_c 0))]) C.1 C.2.1 (dk_at dkX0_allForces 17 rfl) hl (k := 1) rfl (by rw [ex8]; rfl) (by decide) rfl (fun ls hl => ?_)
        refine lv_goto (tgt := 4) C.1 C.2.1 (dk_at dkX0_allForces 18 rfl) (by decide) ?_
        exact ih x8 x7 _ (lv_sub hl [0, 1, 2] rfl) hf
  refine L3 _ ?_ 4096 0 0 _ (lv_sub hl [0, 1, 2] rfl) hf
  clear hf
  intro v1 v2 ls hl hf
  refine lv_iload_n C.1 C.2.1 (dk_at dkX0_allForces 19 rfl) rfl (lv_at hl 0 rfl) ?_
  cases hf
  exact fin _ _ _ (dk_at dkX0_allForces 20 rfl) rfl
