-- X5.placeBy
abbrev tbX5_placeBy : List (Nat × Instr × Nat) := [(0, .aload_n 0, 1), (1, .getfield 23, 3), (4, .getfield 100, 3), (7, .iload_n 1, 1), (8, .aaload, 1), (9, .iconst 2, 1), (10, .iload_n 2, 1), (11, .iastore, 1), (12, .aload_n 0, 1), (13, .getfield 23, 3), (16, .getfield 100, 3), (19, .iload_n 1, 1), (20, .aaload, 1), (21, .iconst 3, 1), (22, .iload_n 3, 1), (23, .iastore, 1), (24, .aload_n 0, 1), (25, .getfield 29, 3), (28, .aload_n 0, 1), (29, .getfield 23, 3), (32, .invokevirtual 140, 3), (35, .aload_n 0, 1), (36, .getfield 29, 3), (39, .getfield 143, 3), (42, .iload_n 1, 1), (43, .iaload, 1), (44, .ireturn, 1)]
theorem dkX5_placeBy : dk cX5_placeBy tbX5_placeBy := dk_of (by decide +kernel)
abbrev cdX5_placeBy : Cond := Cond.code yX5_placeBy cX5_placeBy 4 (some .int)
abbrev rmX5_placeBy : Room := { frames := 4, cells := 0, slots := 0, locals := 93 }
theorem mwX5_placeBy : Cond.instanceMethod yX5_placeBy ∈ wsL_law ∧ Cond.selects RX5 yX5_placeBy yX5_placeBy ∈ wsL_law ∧ Cond.initialized RX5 ∈ wsL_law ∧ cdX5_placeBy ∈ wsL_law := ⟨inr29 _ (List.mem_of_getElem? (i := 13) rfl), inr29 _ (List.mem_of_getElem? (i := 14) rfl), inr1 _ (List.mem_of_getElem? (i := 2) rfl), inr29 _ (List.mem_of_getElem? (i := 15) rfl)⟩
theorem hdX5_placeBy : yX5_placeBy.cls = RX5 ∧ yX5_placeBy.cls ≠ "java/lang/invoke/MethodHandle" ∧ yX5_placeBy.cls ≠ "java/lang/invoke/VarHandle" ∧ (parseMethodDescriptor yX5_placeBy.desc).map (fun d => d.parameters.length) = some 3 := by decide +kernel
set_option maxHeartbeats 4000000 in
set_option maxRecDepth 100000 in
theorem kX5_placeBy (l : Launch) (g : Gx) (sz : Nat) (a_v a_rd a_nw a_tr a_da a_i0 a_i1 a_s0 a_s1 a_s2 a_s3 : Nat → Nat) (v : VT) (tr : CT) (da : DT) (p1 : Int32) (p2 : Int32) (p3 : Int32) (res : Int32) (tr_o : CT) (da_o : DT) (hf : fX5_placeBy p1 p2 p3 v tr da = some (res, tr_o, da_o)) : Met l yX5_placeBy (cdX5_placeBy :: wsL_law) rmX5_placeBy (va_Pc [.ref (a_v 0), .int p1, .int p2, .int p3] (RWp g sz (wV g a_v a_rd a_nw a_tr a_da a_i0 a_i1 a_s0 a_s1 a_s2 a_s3 v ++ wC g a_tr tr ++ wD g a_da da))) (va_Qi (fun x (_ : Unit) => x = res) (fun _ => RWq g (va_A (wV g a_v a_rd a_nw a_tr a_da a_i0 a_i1 a_s0 a_s1 a_s2 a_s3 v ++ wC g a_tr tr ++ wD g a_da da) sz) (wV g a_v a_rd a_nw a_tr a_da a_i0 a_i1 a_s0 a_s1 a_s2 a_s3 v ++ wC g a_tr tr_o ++ wD g a_da da_o)) (va_A (wV g a_v a_rd a_nw a_tr a_da a_i0 a_i1 a_s0 a_s1 a_s2 a_s3 v ++ wC g a_tr tr ++ wD g a_da da) sz)) 0 0 (va_A (wV g a_v a_rd a_nw a_tr a_da a_i0 a_i1 a_s0 a_s1 a_s2 a_s3 v ++ wC g a_tr tr ++ wD g a_da da) sz) := by
  refine Met_rwi (cc := cX5_placeBy) (maxL := 4) (by decide) rfl (Nat.le_of_ble_eq_true rfl) ?_
  intro P E Z Mi AR BE ME CO A Q C hK hA fin w ls hl
  have hl : lv_has ls 4 [(0, .ref (a_v 0)), (1, .int p1), (2, .int p2), (3, .int p3)] := hl
  unfold fX5_placeBy at hf
  refine lv_aload_n C.1 C.2.1 (dk_at dkX5_placeBy 0 rfl) rfl (lv_at hl 0 rfl) ?_
  refine r_get (v := .ref (a_tr 0)) C hK w.1 (fun w h => List.mem_cons_of_mem _ (inlX5 w h)) 0 rfl rfl 2 (by decide) (List.mem_cons_of_mem _ (inr1 _ (List.mem_of_getElem? (i := 20) rfl))) rfl (dk_at dkX5_placeBy 1 rfl) ?_
  refine r_get (v := .ref (a_tr 2)) C hK w.1 (fun w h => List.mem_cons_of_mem _ (inlX0 w h)) 5 rfl rfl 2 (by decide) (List.mem_cons_of_mem _ (inr17 _ (List.mem_of_getElem? (i := 21) rfl))) rfl (dk_at dkX5_placeBy 2 rfl) ?_
  refine lv_iload_n C.1 C.2.1 (dk_at dkX5_placeBy 3 rfl) rfl (lv_at hl 1 rfl) ?_
  obtain ⟨h1, hf⟩ := gd_at hf
  refine r_aldr (b := a_tr (3 + p1.toNatClampNeg)) C hK w.1 7 rfl h1 rfl (dk_at dkX5_placeBy 4 rfl) ?_
  have h2 := in_lt h1
  refine lv_iconst (v := 2) C.1 C.2.1 (dk_at dkX5_placeBy 5 rfl) (by decide) ?_
  refine lv_iload_n C.1 C.2.1 (dk_at dkX5_placeBy 6 rfl) rfl (lv_at hl 2 rfl) ?_
  refine r_iast (k := 2) (a := a_tr (3 + p1.toNatClampNeg)) (n := 5) (f := cTo tr p1.toNatClampNeg) C hK w (5 + (3 + p1.toNatClampNeg)) (by rcases lt5 h2 with h5 | h5 | h5 | h5 | h5 <;> rw [h5] <;> rfl) (in_c (by decide)) (by decide) (dk_at dkX5_placeBy 7 rfl) (fun H locs w => ?_)
  obtain ⟨tr_3, etr_3⟩ : ∃ z : CT, z = cTo' tr (va_up (cTo tr) p1.toNatClampNeg (upd (cTo tr p1.toNatClampNeg) 2 p2)) := ⟨_, rfl⟩
  have hf := nm_at etr_3 hf
  have w : Wd g A Z.heap (wV g a_v a_rd a_nw a_tr a_da a_i0 a_i1 a_s0 a_s1 a_s2 a_s3 v ++ wC g a_tr tr_3 ++ wD g a_da da) H locs := by rw [etr_3]; rcases lt5 h2 with h5 | h5 | h5 | h5 | h5 <;> (rw [h5] at w; rw [h5]; exact w)
  refine lv_aload_n C.1 C.2.1 (dk_at dkX5_placeBy 8 rfl) rfl (lv_at hl 0 rfl) ?_
  refine r_get (v := .ref (a_tr 0)) C hK w.1 (fun w h => List.mem_cons_of_mem _ (inlX5 w h)) 0 rfl rfl 2 (by decide) (List.mem_cons_of_mem _ (inr1 _ (List.mem_of_getElem? (i := 20) rfl))) rfl (dk_at dkX5_placeBy 9 rfl) ?_
  refine r_get (v := .ref (a_tr 2)) C hK w.1 (fun w h => List.mem_cons_of_mem _ (inlX0 w h)) 5 rfl rfl 2 (by decide) (List.mem_cons_of_mem _ (inr17 _ (List.mem_of_getElem? (i := 21) rfl))) rfl (dk_at dkX5_placeBy 10 rfl) ?_
  refine lv_iload_n C.1 C.2.1 (dk_at dkX5_placeBy 11 rfl) rfl (lv_at hl 1 rfl) ?_
  obtain ⟨h4, hf⟩ := gd_at hf
  refine r_aldr (b := a_tr (3 + p1.toNatClampNeg)) C hK w.1 7 rfl h4 rfl (dk_at dkX5_placeBy 12 rfl) ?_
  have h5 := in_lt h4
  refine lv_iconst (v := 3) C.1 C.2.1 (dk_at dkX5_placeBy 13 rfl) (by decide) ?_
  refine lv_iload_n C.1 C.2.1 (dk_at dkX5_placeBy 14 rfl) rfl (lv_at hl 3 rfl) ?_
  refine r_iast (k := 3) (a := a_tr (3 + p1.toNatClampNeg)) (n := 5) (f := cTo tr_3 p1.toNatClampNeg) C hK w (5 + (3 + p1.toNatClampNeg)) (by rcases lt5 h5 with h5 | h5 | h5 | h5 | h5 <;> rw [h5] <;> rfl) (in_c (by decide)) (by decide) (dk_at dkX5_placeBy 15 rfl) (fun H locs w => ?_)
  obtain ⟨tr_6, etr_6⟩ : ∃ z : CT, z = cTo' tr_3 (va_up (cTo tr_3) p1.toNatClampNeg (upd (cTo tr_3 p1.toNatClampNeg) 3 p3)) := ⟨_, rfl⟩
  have hf := nm_at etr_6 hf
  have w : Wd g A Z.heap (wV g a_v a_rd a_nw a_tr a_da a_i0 a_i1 a_s0 a_s1 a_s2 a_s3 v ++ wC g a_tr tr_6 ++ wD g a_da da) H locs := by rw [etr_6]; rcases lt5 h5 with h5 | h5 | h5 | h5 | h5 <;> (rw [h5] at w; rw [h5]; exact w)
  refine lv_aload_n C.1 C.2.1 (dk_at dkX5_placeBy 16 rfl) rfl (lv_at hl 0 rfl) ?_
  refine r_get (v := .ref (a_da 0)) C hK w.1 (fun w h => List.mem_cons_of_mem _ (inlX5 w h)) 0 rfl rfl 3 (by decide) (List.mem_cons_of_mem _ (inr2 _ (List.mem_of_getElem? (i := 0) rfl))) rfl (dk_at dkX5_placeBy 17 rfl) ?_
  refine lv_aload_n C.1 C.2.1 (dk_at dkX5_placeBy 18 rfl) rfl (lv_at hl 0 rfl) ?_
  refine r_get (v := .ref (a_tr 0)) C hK w.1 (fun w h => List.mem_cons_of_mem _ (inlX5 w h)) 0 rfl rfl 2 (by decide) (List.mem_cons_of_mem _ (inr1 _ (List.mem_of_getElem? (i := 20) rfl))) rfl (dk_at dkX5_placeBy 19 rfl) ?_
  obtain ⟨da_7, hq8, hf⟩ := bd1_at hf
  refine r_rwv (As := [.ref (a_tr 0)]) (rest := []) (wr := wV g a_v a_rd a_nw a_tr a_da a_i0 a_i1 a_s0 a_s1 a_s2 a_s3 v) (ws' := wV g a_v a_rd a_nw a_tr a_da a_i0 a_i1 a_s0 a_s1 a_s2 a_s3 v ++ wC g a_tr tr_6 ++ wD g a_da da_7) C (kX1_pass l g _ a_da a_tr da tr_6 da_7 hq8) (cwV0 C (inr23 _ (List.mem_of_getElem? (i := 7) rfl)) mwX1_pass hdX1_pass ⟨Nat.le_of_ble_eq_true rfl, Nat.le_of_ble_eq_true rfl⟩) hK w hA [16, 17, 18, 19, 20, 21, 5, 6, 7, 8, 9, 10, 11, 12, 13, 14, 15] [0, 1, 2, 3, 4] [0, 1, 2, 3, 4, 11, 12, 13, 14, 15, 16, 17, 18, 19, 20, 21, 5, 6, 7, 8, 9, 10] (by decide) rfl rfl (by decide) (by decide) rfl (by decide) rfl rfl rfl hl.1 rfl (Nat.le_of_ble_eq_true rfl) ⟨Nat.zero_le _, Nat.zero_le _⟩ (dk_at dkX5_placeBy 20 rfl) (fun H locs w => ?_)
  refine lv_aload_n C.1 C.2.1 (dk_at dkX5_placeBy 21 rfl) rfl (lv_at hl 0 rfl) ?_
  refine r_get (v := .ref (a_da 0)) C hK w.1 (fun w h => List.mem_cons_of_mem _ (inlX5 w h)) 0 rfl rfl 3 (by decide) (List.mem_cons_of_mem _ (inr2 _ (List.mem_of_getElem? (i := 0) rfl))) rfl (dk_at dkX5_placeBy 22 rfl) ?_
  refine r_get (v := .ref (a_da 1)) C hK w.1 (fun w h => List.mem_cons_of_mem _ (inlX1 w h)) 16 rfl rfl 0 (by decide) (List.mem_cons_of_mem _ (inr23 _ (List.mem_of_getElem? (i := 4) rfl))) rfl (dk_at dkX5_placeBy 23 rfl) ?_
  refine lv_iload_n C.1 C.2.1 (dk_at dkX5_placeBy 24 rfl) rfl (lv_at hl 1 rfl) ?_
  obtain ⟨h9, hf⟩ := gd_at hf
  refine r_iald (k := p1.toNatClampNeg) (f := (dPl da_7)) C hK w.1 17 rfl h9 rfl (dk_at dkX5_placeBy 25 rfl) ?_
  refine lv_topi (fun x10 ex10 => ?_)
  have hf := nm_at ex10 hf
  cases hf
  exact fin _ _ _ _ _ (dk_at dkX5_placeBy 26 rfl) rfl w
-- X5.aim
abbrev tbX5_aim : List (Nat × Instr × Nat) := [(0, .aload_n 0, 1), (1, .getfield 19, 3), (4, .iload_n 1, 1), (5, .invokevirtual 96, 3), (8, .ifCond .eq 10, 3), (11, .iload_n 2, 1), (12, .invokestatic 116, 3), (15, .ifCond .ne 5, 3), (18, .iconst (-1), 1), (19, .ireturn, 1), (20, .iload_n 2, 1), (21, .invokestatic 119, 3), (24, .istore_n 3, 1), (25, .aload_n 0, 1), (26, .getfield 23, 3), (29, .aload_n 0, 1), (30, .getfield 19, 3), (33, .invokevirtual 73, 3), (36, .iconst 1, 1), (37, .istore 4, 2), (39, .iload 4, 2), (41, .bipush 9, 2), (43, .if_icmp .gt 46, 3), (46, .iconst 0, 1), (47, .istore 5, 2), (49, .iload 5, 2), (51, .iconst 4, 1), (52, .if_icmp .ge 31, 3), (55, .aload_n 0, 1), (56, .iload_n 1, 1), (57, .iload 5, 2), (59, .iload 4, 2), (61, .invokevirtual 172, 3), (64, .iload_n 3, 1), (65, .if_icmp .ne 12, 3), (68, .bipush 10, 2), (70, .iload 4, 2), (72, .imul, 1), (73, .iload 5, 2), (75, .iadd, 1), (76, .ireturn, 1), (77, .iinc 5 1, 3), (80, .goto (-31), 3), (83, .iinc 4 1, 3), (86, .goto (-47), 3), (89, .bipush (-4), 2), (91, .ireturn, 1)]
theorem dkX5_aim : dk cX5_aim tbX5_aim := dk_of (by decide +kernel)
abbrev cdX5_aim : Cond := Cond.code yX5_aim cX5_aim 6 (some .int)
abbrev rmX5_aim : Room := { frames := 5, cells := 0, slots := 0, locals := 116 }
theorem mwX5_aim : Cond.instanceMethod yX5_aim ∈ wsL_law ∧ Cond.selects RX5 yX5_aim yX5_aim ∈ wsL_law ∧ Cond.initialized RX5 ∈ wsL_law ∧ cdX5_aim ∈ wsL_law := ⟨inr29 _ (List.mem_of_getElem? (i := 9) rfl), inr29 _ (List.mem_of_getElem? (i := 10) rfl), inr1 _ (List.mem_of_getElem? (i := 2) rfl), inr29 _ (List.mem_of_getElem? (i := 11) rfl)⟩
theorem hdX5_aim : yX5_aim.cls = RX5 ∧ yX5_aim.cls ≠ "java/lang/invoke/MethodHandle" ∧ yX5_aim.cls ≠ "java/lang/invoke/VarHandle" ∧ (parseMethodDescriptor yX5_aim.desc).map (fun d => d.parameters.length) = some 2 := by decide +kernel
set_option maxHeartbeats 4000000 in
set_option maxRecDepth 100000 in
theorem kX5_aim (l : Launch) (g : Gx) (sz : Nat) (a_v a_rd a_nw a_tr a_da a_i0 a_i1 a_s0 a_s1 a_s2 a_s3 : Nat → Nat) (v : VT) (nw : CT) (tr : CT) (da : DT) (p1 : Int32) (p2 : Int32) (res : Int32) (tr_o : CT) (da_o : DT) (hf : fX5_aim p1 p2 v nw tr da = some (res, tr_o, da_o)) : Met l yX5_aim (cdX5_aim :: wsL_law) rmX5_aim (va_Pc [.ref (a_v 0), .int p1, .int p2] (RWp g sz (wV g a_v a_rd a_nw a_tr a_da a_i0 a_i1 a_s0 a_s1 a_s2 a_s3 v ++ wC g a_nw nw ++ wC g a_tr tr ++ wD g a_da da))) (va_Qi (fun x (_ : Unit) => x = res) (fun _ => RWq g (va_A (wV g a_v a_rd a_nw a_tr a_da a_i0 a_i1 a_s0 a_s1 a_s2 a_s3 v ++ wC g a_nw nw ++ wC g a_tr tr ++ wD g a_da da) sz) (wV g a_v a_rd a_nw a_tr a_da a_i0 a_i1 a_s0 a_s1 a_s2 a_s3 v ++ wC g a_nw nw ++ wC g a_tr tr_o ++ wD g a_da da_o)) (va_A (wV g a_v a_rd a_nw a_tr a_da a_i0 a_i1 a_s0 a_s1 a_s2 a_s3 v ++ wC g a_nw nw ++ wC g a_tr tr ++ wD g a_da da) sz)) 0 0 (va_A (wV g a_v a_rd a_nw a_tr a_da a_i0 a_i1 a_s0 a_s1 a_s2 a_s3 v ++ wC g a_nw nw ++ wC g a_tr tr ++ wD g a_da da) sz) := by
  refine Met_rwi (cc := cX5_aim) (maxL := 6) (by decide) rfl (Nat.le_of_ble_eq_true rfl) ?_
  intro P E Z Mi AR BE ME CO A Q C hK hA fin w ls hl
  have hl : lv_has ls 6 [(0, .ref (a_v 0)), (1, .int p1), (2, .int p2)] := hl
  unfold fX5_aim at hf
  refine lv_aload_n C.1 C.2.1 (dk_at dkX5_aim 0 rfl) rfl (lv_at hl 0 rfl) ?_
  refine r_get (v := .ref (a_nw 0)) C hK w.1 (fun w h => List.mem_cons_of_mem _ (inlX5 w h)) 0 rfl rfl 1 (by decide) (List.mem_cons_of_mem _ (inr1 _ (List.mem_of_getElem? (i := 19) rfl))) rfl (dk_at dkX5_aim 1 rfl) ?_
  refine lv_iload_n C.1 C.2.1 (dk_at dkX5_aim 2 rfl) rfl (lv_at hl 1 rfl) ?_
  obtain ⟨r1, hq2, hf⟩ := bd1_at hf
  refine r_roV (As := [.int p1]) (rest := []) C (kX0_isSaying l g a_nw nw p1 r1 hq2) (cwV0 C (inr17 _ (List.mem_of_getElem? (i := 22) rfl)) mwX0_isSaying hdX0_isSaying ⟨Nat.le_of_ble_eq_true rfl, Nat.le_of_ble_eq_true rfl⟩) hK (w.1.sub [5, 6, 7, 8, 9, 10, 11, 12, 13, 14, 15] rfl) rfl rfl rfl hl.1 rfl (Nat.le_of_ble_eq_true rfl) ⟨Nat.zero_le _, Nat.zero_le _⟩ (dk_at dkX5_aim 3 rfl) ?_
  refine lv_if_eq (tgt := 18) C.1 C.2.1 (dk_at dkX5_aim 4 rfl) (by decide) (fun c3 => ?_) (fun c3 => ?_)
  · have hf := (if_pos c3).symm.trans hf
    refine lv_iconst (v := (-1)) C.1 C.2.1 (dk_at dkX5_aim 8 rfl) (by decide) ?_
    cases hf
    exact fin _ _ _ _ _ (dk_at dkX5_aim 9 rfl) rfl w
  · have hf := (if_neg c3).symm.trans hf
    refine lv_iload_n C.1 C.2.1 (dk_at dkX5_aim 5 rfl) rfl (lv_at hl 2 rfl) ?_
    obtain ⟨r4, hq5, hf⟩ := bd1_at hf
    refine r_st (As := [.int p2]) (rest := []) C (kX3_isCell l p2 r4 hq5) (cwS0 C (inr19 _ (List.mem_of_getElem? (i := 19) rfl)) mwX3_isCell hdX3_isCell ⟨Nat.le_of_ble_eq_true rfl, Nat.le_of_ble_eq_true rfl⟩) rfl hl.1 rfl (Nat.le_of_ble_eq_true rfl) ⟨Nat.zero_le _, Nat.zero_le _⟩ (dk_at dkX5_aim 6 rfl) ?_
    refine lv_if_ne (tgt := 20) C.1 C.2.1 (dk_at dkX5_aim 7 rfl) (by decide) (fun c6 => ?_) (fun c6 => ?_)
    · have hf := (if_neg c6).symm.trans hf
      refine lv_iload_n C.1 C.2.1 (dk_at dkX5_aim 10 rfl) rfl (lv_at hl 2 rfl) ?_
      obtain ⟨r7, hq8, hf⟩ := bd1_at hf
      refine r_st (As := [.int p2]) (rest := []) C (kX3_placeOf l p2 r7 hq8) (cwS0 C (inr19 _ (List.mem_of_getElem? (i := 20) rfl)) mwX3_placeOf hdX3_placeOf ⟨Nat.le_of_ble_eq_true rfl, Nat.le_of_ble_eq_true rfl⟩) rfl hl.1 rfl (Nat.le_of_ble_eq_true rfl) ⟨Nat.zero_le _, Nat.zero_le _⟩ (dk_at dkX5_aim 11 rfl) ?_
      refine lv_istore_n (lv' := [(3, .int r7), (0, .ref (a_v 0)), (1, .int p1), (2, .int p2)]) C.1 C.2.1 (dk_at dkX5_aim 12 rfl) rfl hl (by decide) rfl (fun ls hl => ?_)
      refine lv_aload_n C.1 C.2.1 (dk_at dkX5_aim 13 rfl) rfl (lv_at hl 1 rfl) ?_
      refine r_get (v := .ref (a_tr 0)) C hK w.1 (fun w h => List.mem_cons_of_mem _ (inlX5 w h)) 0 rfl rfl 2 (by decide) (List.mem_cons_of_mem _ (inr1 _ (List.mem_of_getElem? (i := 20) rfl))) rfl (dk_at dkX5_aim 14 rfl) ?_
      refine lv_aload_n C.1 C.2.1 (dk_at dkX5_aim 15 rfl) rfl (lv_at hl 1 rfl) ?_
      refine r_get (v := .ref (a_nw 0)) C hK w.1 (fun w h => List.mem_cons_of_mem _ (inlX5 w h)) 0 rfl rfl 1 (by decide) (List.mem_cons_of_mem _ (inr1 _ (List.mem_of_getElem? (i := 19) rfl))) rfl (dk_at dkX5_aim 16 rfl) ?_
      obtain ⟨tr_9, hq10, hf⟩ := bd1_at hf
      refine r_rwv (As := [.ref (a_nw 0)]) (rest := []) (wr := wV g a_v a_rd a_nw a_tr a_da a_i0 a_i1 a_s0 a_s1 a_s2 a_s3 v ++ wD g a_da da) (ws' := wV g a_v a_rd a_nw a_tr a_da a_i0 a_i1 a_s0 a_s1 a_s2 a_s3 v ++ wC g a_nw nw ++ wC g a_tr tr_9 ++ wD g a_da da) C (kX0_copyTo l g _ a_tr a_nw tr nw tr_9 hq10) (cwV0 C (inr12 _ (List.mem_of_getElem? (i := 6) rfl)) mwX0_copyFrom hdX0_copyFrom ⟨Nat.le_of_ble_eq_true rfl, Nat.le_of_ble_eq_true rfl⟩) hK w hA [16, 17, 18, 19, 20, 21, 22, 23, 24, 25, 26, 5, 6, 7, 8, 9, 10, 11, 12, 13, 14, 15] [0, 1, 2, 3, 4, 27, 28, 29, 30, 31, 32] [0, 1, 2, 3, 4, 22, 23, 24, 25, 26, 27, 28, 29, 30, 31, 32, 11, 12, 13, 14, 15, 16, 17, 18, 19, 20, 21, 5, 6, 7, 8, 9, 10] (by decide) rfl rfl (by decide) (by decide) rfl (by decide) rfl rfl rfl hl.1 rfl (Nat.le_of_ble_eq_true rfl) ⟨Nat.zero_le _, Nat.zero_le _⟩ (dk_at dkX5_aim 17 rfl) (fun H locs w => ?_)
      refine lv_iconst (v := 1) C.1 C.2.1 (dk_at dkX5_aim 18 rfl) (by decide) ?_
      refine lv_istore (lv' := [(4, .int 1), (3, .int r7), (0, .ref (a_v 0)), (1, .int p1), (2, .int p2)]) C.1 C.2.1 (dk_at dkX5_aim 19 rfl) hl (by decide) rfl (fun ls hl => ?_)
      have L14 : ∀ (K : Int32 → CT → DT → Option (Int32 × CT × DT)), (∀ (v11 : Int32) (tr_12 : CT) (da_13 : DT) (H : Heap) (locs : List Loc) (ls : Array Slot), Wd g A Z.heap (wV g a_v a_rd a_nw a_tr a_da a_i0 a_i1 a_s0 a_s1 a_s2 a_s3 v ++ wC g a_nw nw ++ wC g a_tr tr_12 ++ wD g a_da da_13) H locs → lv_has ls 6 [] → K v11 tr_12 da_13 = some (res, tr_o, da_o) → W P l E rmX5_aim Z Mi AR BE ME CO H locs 0 0 Q (F0 Mi 89 ls [])) → ∀ (n : Nat), ∀ (v11 : Int32) (tr_12 : CT) (da_13 : DT) (H : Heap) (locs : List Loc) (ls : Array Slot), Wd g A Z.heap (wV g a_v a_rd a_nw a_tr a_da a_i0 a_i1 a_s0 a_s1 a_s2 a_s3 v ++ wC g a_nw nw ++ wC g a_tr tr_12 ++ wD g a_da da_13) H locs → lv_has ls 6 [(4, .int v11), (3, .int r7), (0, .ref (a_v 0)), (1, .int p1)] → fX5_aim_L39 v p1 r7 K n v11 tr_12 da_13 = some (res, tr_o, da_o) → W P l E rmX5_aim Z Mi AR BE ME CO H locs 0 0 Q (F0 Mi 39 ls []) := by
        intro K hKe n
        induction n with
        | zero => intro v11 tr_12 da_13 H locs ls w hl hf; cases hf
        | succ n ih =>
          intro v11 tr_12 da_13 H locs ls w hl hf
          rw [fX5_aim_L39] at hf
          refine lv_iload C.1 C.2.1 (dk_at dkX5_aim 20 rfl) (lv_at hl 0 rfl) ?_
          refine lv_bipush (v := 9) C.1 C.2.1 (dk_at dkX5_aim 21 rfl) (by decide) ?_
          refine lv_icmp_gt (tgt := 89) C.1 C.2.1 (dk_at dkX5_aim 22 rfl) (by decide) (fun c15 => ?_) (fun c15 => ?_)
          · have hf := (if_pos c15).symm.trans hf
            exact hKe v11 tr_12 da_13 _ _ _ w (lv_sub hl [] rfl) hf
          · have hf := (if_neg c15).symm.trans hf
            refine lv_iconst (v := 0) C.1 C.2.1 (dk_at dkX5_aim 23 rfl) (by decide) ?_
            refine lv_istore (lv' := [(5, .int 0), (4, .int v11), (3, .int r7), (0, .ref (a_v 0)), (1, .int p1)]) C.1 C.2.1 (dk_at dkX5_aim 24 rfl) hl (by decide) rfl (fun ls hl => ?_)
            have L19 : ∀ (K : Int32 → CT → DT → Option (Int32 × CT × DT)), (∀ (v16 : Int32) (tr_17 : CT) (da_18 : DT) (H : Heap) (locs : List Loc) (ls : Array Slot), Wd g A Z.heap (wV g a_v a_rd a_nw a_tr a_da a_i0 a_i1 a_s0 a_s1 a_s2 a_s3 v ++ wC g a_nw nw ++ wC g a_tr tr_17 ++ wD g a_da da_18) H locs → lv_has ls 6 [(4, .int v11), (3, .int r7), (0, .ref (a_v 0)), (1, .int p1)] → K v16 tr_17 da_18 = some (res, tr_o, da_o) → W P l E rmX5_aim Z Mi AR BE ME CO H locs 0 0 Q (F0 Mi 83 ls [])) → ∀ (n : Nat), ∀ (v16 : Int32) (tr_17 : CT) (da_18 : DT) (H : Heap) (locs : List Loc) (ls : Array Slot), Wd g A Z.heap (wV g a_v a_rd a_nw a_tr a_da a_i0 a_i1 a_s0 a_s1 a_s2 a_s3 v ++ wC g a_nw nw ++ wC g a_tr tr_17 ++ wD g a_da da_18) H locs → lv_has ls 6 [(5, .int v16), (4, .int v11), (3, .int r7), (0, .ref (a_v 0)), (1, .int p1)] → fX5_aim_L49 v p1 r7 v11 K n v16 tr_17 da_18 = some (res, tr_o, da_o) → W P l E rmX5_aim Z Mi AR BE ME CO H locs 0 0 Q (F0 Mi 49 ls []) := by
              intro K hKe n
              induction n with
              | zero => intro v16 tr_17 da_18 H locs ls w hl hf; cases hf
              | succ n ih =>
                intro v16 tr_17 da_18 H locs ls w hl hf
                rw [fX5_aim_L49] at hf
                refine lv_iload C.1 C.2.1 (dk_at dkX5_aim 25 rfl) (lv_at hl 0 rfl) ?_
                refine lv_iconst (v := 4) C.1 C.2.1 (dk_at dkX5_aim 26 rfl) (by decide) ?_
                refine lv_icmp_ge (tgt := 83) C.1 C.2.1 (dk_at dkX5_aim 27 rfl) (by decide) (fun c20 => ?_) (fun c20 => ?_)
                · have hf := (if_pos c20).symm.trans hf
                  exact hKe v16 tr_17 da_18 _ _ _ w (lv_sub hl [1, 2, 3, 4] rfl) hf
                · have hf := (if_neg c20).symm.trans hf
                  refine lv_aload_n C.1 C.2.1 (dk_at dkX5_aim 28 rfl) rfl (lv_at hl 3 rfl) ?_
                  refine lv_iload_n C.1 C.2.1 (dk_at dkX5_aim 29 rfl) rfl (lv_at hl 4 rfl) ?_
                  refine lv_iload C.1 C.2.1 (dk_at dkX5_aim 30 rfl) (lv_at hl 0 rfl) ?_
                  refine lv_iload C.1 C.2.1 (dk_at dkX5_aim 31 rfl) (lv_at hl 1 rfl) ?_
                  obtain ⟨r21, tr_22, da_23, hq24, hf⟩ := bd3_at hf
                  refine r_rwi (As := [.int p1, .int v16, .int v11]) (rest := []) (wr := wC g a_nw nw) (ws' := wV g a_v a_rd a_nw a_tr a_da a_i0 a_i1 a_s0 a_s1 a_s2 a_s3 v ++ wC g a_nw nw ++ wC g a_tr tr_22 ++ wD g a_da da_23) C (kX5_placeBy l g _ a_v a_rd a_nw a_tr a_da a_i0 a_i1 a_s0 a_s1 a_s2 a_s3 v tr_17 da_18 p1 v16 v11 r21 tr_22 da_23 hq24) (cwV0 C (inr29 _ (List.mem_of_getElem? (i := 12) rfl)) mwX5_placeBy hdX5_placeBy ⟨Nat.le_of_ble_eq_true rfl, Nat.le_of_ble_eq_true rfl⟩) hK w hA [0, 1, 2, 3, 4, 16, 17, 18, 19, 20, 21, 22, 23, 24, 25, 26, 27, 28, 29, 30, 31, 32] [5, 6, 7, 8, 9, 10, 11, 12, 13, 14, 15] [11, 12, 13, 14, 15, 0, 1, 2, 3, 4, 5, 6, 7, 8, 9, 10, 16, 17, 18, 19, 20, 21, 22, 23, 24, 25, 26, 27, 28, 29, 30, 31, 32] (by decide) rfl rfl (by decide) (by decide) rfl (by decide) rfl rfl rfl hl.1 rfl (Nat.le_of_ble_eq_true rfl) ⟨Nat.zero_le _, Nat.zero_le _⟩ (dk_at dkX5_aim 32 rfl) (fun H locs w => ?_)
                  refine lv_iload_n C.1 C.2.1 (dk_at dkX5_aim 33 rfl) rfl (lv_at hl 2 rfl) ?_
                  refine lv_icmp_ne (tgt := 77) C.1 C.2.1 (dk_at dkX5_aim 34 rfl) (by decide) (fun c25 => ?_) (fun c25 => ?_)
                  · have hf := (if_neg c25).symm.trans hf
                    obtain ⟨x26, ex26⟩ : ∃ z : Int32, z = v16 + 1 := ⟨_, rfl⟩
                    have hf := nm_at ex26 hf
                    refine lv_iinc (v := x26) (lv' := [(5, .int x26), (4, .int v11), (3, .int r7), (0, .ref (a_v 0)), (1, .int p1)]) C.1 C.2.1 (dk_at dkX5_aim 41 rfl) hl (k := 0) rfl (by rw [ex26]; rfl) (by decide) rfl (fun ls hl => ?_)
                    refine lv_goto (tgt := 49) C.1 C.2.1 (dk_at dkX5_aim 42 rfl) (by decide) ?_
                    exact ih x26 tr_22 da_23 _ _ _ w (lv_sub hl [0, 1, 2, 3, 4] rfl) hf
                  · have hf := (if_pos c25).symm.trans hf
                    refine lv_bipush (v := 10) C.1 C.2.1 (dk_at dkX5_aim 35 rfl) (by decide) ?_
                    refine lv_iload C.1 C.2.1 (dk_at dkX5_aim 36 rfl) (lv_at hl 1 rfl) ?_
                    refine lv_imul C.1 C.2.1 (dk_at dkX5_aim 37 rfl) ?_
                    refine lv_topi (fun x27 ex27 => ?_)
                    have hf := nm_at ex27 hf
                    refine lv_iload C.1 C.2.1 (dk_at dkX5_aim 38 rfl) (lv_at hl 0 rfl) ?_
                    refine lv_iadd C.1 C.2.1 (dk_at dkX5_aim 39 rfl) ?_
                    refine lv_topi (fun x28 ex28 => ?_)
                    have hf := nm_at ex28 hf
                    cases hf
                    exact fin _ _ _ _ _ (dk_at dkX5_aim 40 rfl) rfl w
            refine L19 _ ?_ 4096 0 tr_12 da_13 _ _ _ w (lv_sub hl [0, 1, 2, 3, 4] rfl) hf
            clear hf
            intro v16 tr_17 da_18 H locs ls w hl hf
            obtain ⟨x29, ex29⟩ : ∃ z : Int32, z = v11 + 1 := ⟨_, rfl⟩
            have hf := nm_at ex29 hf
            refine lv_iinc (v := x29) (lv' := [(4, .int x29), (3, .int r7), (0, .ref (a_v 0)), (1, .int p1)]) C.1 C.2.1 (dk_at dkX5_aim 43 rfl) hl (k := 0) rfl (by rw [ex29]; rfl) (by decide) rfl (fun ls hl => ?_)
            refine lv_goto (tgt := 39) C.1 C.2.1 (dk_at dkX5_aim 44 rfl) (by decide) ?_
            exact ih x29 tr_17 da_18 _ _ _ w (lv_sub hl [0, 1, 2, 3] rfl) hf
      refine L14 _ ?_ 4096 1 tr_9 da _ _ _ w (lv_sub hl [0, 1, 2, 3] rfl) hf
      clear hf
      intro v11 tr_12 da_13 H locs ls w hl hf
      refine lv_bipush (v := (-4)) C.1 C.2.1 (dk_at dkX5_aim 45 rfl) (by decide) ?_
      cases hf
      exact fin _ _ _ _ _ (dk_at dkX5_aim 46 rfl) rfl w
    · have hf := (if_pos c6).symm.trans hf
      refine lv_iconst (v := (-1)) C.1 C.2.1 (dk_at dkX5_aim 8 rfl) (by decide) ?_
      cases hf
      exact fin _ _ _ _ _ (dk_at dkX5_aim 9 rfl) rfl w
-- X5.reach
abbrev tbX5_reach : List (Nat × Instr × Nat) := [(0, .aload_n 0, 1), (1, .getfield 19, 3), (4, .iload_n 1, 1), (5, .invokevirtual 96, 3), (8, .ifCond .ne 5, 3), (11, .iconst (-1), 1), (12, .ireturn, 1), (13, .lconst 0, 1), (14, .lstore_n 2, 1), (15, .aload_n 0, 1), (16, .getfield 23, 3), (19, .aload_n 0, 1), (20, .getfield 19, 3), (23, .invokevirtual 73, 3), (26, .iconst 1, 1), (27, .istore 4, 2), (29, .iload 4, 2), (31, .bipush 9, 2), (33, .if_icmp .gt 38, 3), (36, .iconst 0, 1), (37, .istore 5, 2), (39, .iload 5, 2), (41, .iconst 4, 1), (42, .if_icmp .ge 23, 3), (45, .lload_n 2, 1), (46, .lconst 1, 1), (47, .aload_n 0, 1), (48, .iload_n 1, 1), (49, .iload 5, 2), (51, .iload 4, 2), (53, .invokevirtual 172, 3), (56, .lshl, 1), (57, .lor, 1), (58, .lstore_n 2, 1), (59, .iinc 5 1, 3), (62, .goto (-23), 3), (65, .iinc 4 1, 3), (68, .goto (-39), 3), (71, .lload_n 2, 1), (72, .invokestatic 87, 3), (75, .ireturn, 1)]
theorem dkX5_reach : dk cX5_reach tbX5_reach := dk_of (by decide +kernel)
abbrev cdX5_reach : Cond := Cond.code yX5_reach cX5_reach 6 (some .int)
abbrev rmX5_reach : Room := { frames := 5, cells := 0, slots := 0, locals := 116 }
theorem mwX5_reach : Cond.instanceMethod yX5_reach ∈ wsL_law ∧ Cond.selects RX5 yX5_reach yX5_reach ∈ wsL_law ∧ Cond.initialized RX5 ∈ wsL_law ∧ cdX5_reach ∈ wsL_law := ⟨inr30 _ (List.mem_of_getElem? (i := 5) rfl), inr30 _ (List.mem_of_getElem? (i := 6) rfl), inr1 _ (List.mem_of_getElem? (i := 2) rfl), inr30 _ (List.mem_of_getElem? (i := 7) rfl)⟩
theorem hdX5_reach : yX5_reach.cls = RX5 ∧ yX5_reach.cls ≠ "java/lang/invoke/MethodHandle" ∧ yX5_reach.cls ≠ "java/lang/invoke/VarHandle" ∧ (parseMethodDescriptor yX5_reach.desc).map (fun d => d.parameters.length) = some 1 := by decide +kernel
set_option maxHeartbeats 4000000 in
set_option maxRecDepth 100000 in
theorem kX5_reach (l : Launch) (g : Gx) (sz : Nat) (a_v a_rd a_nw a_tr a_da a_i0 a_i1 a_s0 a_s1 a_s2 a_s3 : Nat → Nat) (v : VT) (nw : CT) (tr : CT) (da : DT) (p1 : Int32) (res : Int32) (tr_o : CT) (da_o : DT) (hf : fX5_reach p1 v nw tr da = some (res, tr_o, da_o)) : Met l yX5_reach (cdX5_reach :: wsL_law) rmX5_reach (va_Pc [.ref (a_v 0), .int p1] (RWp g sz (wV g a_v a_rd a_nw a_tr a_da a_i0 a_i1 a_s0 a_s1 a_s2 a_s3 v ++ wC g a_nw nw ++ wC g a_tr tr ++ wD g a_da da))) (va_Qi (fun x (_ : Unit) => x = res) (fun _ => RWq g (va_A (wV g a_v a_rd a_nw a_tr a_da a_i0 a_i1 a_s0 a_s1 a_s2 a_s3 v ++ wC g a_nw nw ++ wC g a_tr tr ++ wD g a_da da) sz) (wV g a_v a_rd a_nw a_tr a_da a_i0 a_i1 a_s0 a_s1 a_s2 a_s3 v ++ wC g a_nw nw ++ wC g a_tr tr_o ++ wD g a_da da_o)) (va_A (wV g a_v a_rd a_nw a_tr a_da a_i0 a_i1 a_s0 a_s1 a_s2 a_s3 v ++ wC g a_nw nw ++ wC g a_tr tr ++ wD g a_da da) sz)) 0 0 (va_A (wV g a_v a_rd a_nw a_tr a_da a_i0 a_i1 a_s0 a_s1 a_s2 a_s3 v ++ wC g a_nw nw ++ wC g a_tr tr ++ wD g a_da da) sz) := by
  refine Met_rwi (cc := cX5_reach) (maxL := 6) (by decide) rfl (Nat.le_of_ble_eq_true rfl) ?_
  intro P E Z Mi AR BE ME CO A Q C hK hA fin w ls hl
  have hl : lv_has ls 6 [(0, .ref (a_v 0)), (1, .int p1)] := hl
  unfold fX5_reach at hf
  refine lv_aload_n C.1 C.2.1 (dk_at dkX5_reach 0 rfl) rfl (lv_at hl 0 rfl) ?_
  refine r_get (v := .ref (a_nw 0)) C hK w.1 (fun w h => List.mem_cons_of_mem _ (inlX5 w h)) 0 rfl rfl 1 (by decide) (List.mem_cons_of_mem _ (inr1 _ (List.mem_of_getElem? (i := 19) rfl))) rfl (dk_at dkX5_reach 1 rfl) ?_
  refine lv_iload_n C.1 C.2.1 (dk_at dkX5_reach 2 rfl) rfl (lv_at hl 1 rfl) ?_
  obtain ⟨r1, hq2, hf⟩ := bd1_at hf
  refine r_roV (As := [.int p1]) (rest := []) C (kX0_isSaying l g a_nw nw p1 r1 hq2) (cwV0 C (inr17 _ (List.mem_of_getElem? (i := 22) rfl)) mwX0_isSaying hdX0_isSaying ⟨Nat.le_of_ble_eq_true rfl, Nat.le_of_ble_eq_true rfl⟩) hK (w.1.sub [5, 6, 7, 8, 9, 10, 11, 12, 13, 14, 15] rfl) rfl rfl rfl hl.1 rfl (Nat.le_of_ble_eq_true rfl) ⟨Nat.zero_le _, Nat.zero_le _⟩ (dk_at dkX5_reach 3 rfl) ?_
  refine lv_if_ne (tgt := 13) C.1 C.2.1 (dk_at dkX5_reach 4 rfl) (by decide) (fun c3 => ?_) (fun c3 => ?_)
  · have hf := (if_neg c3).symm.trans hf
    refine lv_lconst (v := 0) C.1 C.2.1 (dk_at dkX5_reach 7 rfl) (by decide) ?_
    refine lv_lstore_n (lv' := [(2, .long 0), (0, .ref (a_v 0)), (1, .int p1)]) C.1 C.2.1 (dk_at dkX5_reach 8 rfl) rfl hl (by decide) rfl (fun ls hl => ?_)
    refine lv_aload_n C.1 C.2.1 (dk_at dkX5_reach 9 rfl) rfl (lv_at hl 1 rfl) ?_
    refine r_get (v := .ref (a_tr 0)) C hK w.1 (fun w h => List.mem_cons_of_mem _ (inlX5 w h)) 0 rfl rfl 2 (by decide) (List.mem_cons_of_mem _ (inr1 _ (List.mem_of_getElem? (i := 20) rfl))) rfl (dk_at dkX5_reach 10 rfl) ?_
    refine lv_aload_n C.1 C.2.1 (dk_at dkX5_reach 11 rfl) rfl (lv_at hl 1 rfl) ?_
    refine r_get (v := .ref (a_nw 0)) C hK w.1 (fun w h => List.mem_cons_of_mem _ (inlX5 w h)) 0 rfl rfl 1 (by decide) (List.mem_cons_of_mem _ (inr1 _ (List.mem_of_getElem? (i := 19) rfl))) rfl (dk_at dkX5_reach 12 rfl) ?_
    obtain ⟨tr_4, hq5, hf⟩ := bd1_at hf
    refine r_rwv (As := [.ref (a_nw 0)]) (rest := []) (wr := wV g a_v a_rd a_nw a_tr a_da a_i0 a_i1 a_s0 a_s1 a_s2 a_s3 v ++ wD g a_da da) (ws' := wV g a_v a_rd a_nw a_tr a_da a_i0 a_i1 a_s0 a_s1 a_s2 a_s3 v ++ wC g a_nw nw ++ wC g a_tr tr_4 ++ wD g a_da da) C (kX0_copyTo l g _ a_tr a_nw tr nw tr_4 hq5) (cwV0 C (inr12 _ (List.mem_of_getElem? (i := 6) rfl)) mwX0_copyFrom hdX0_copyFrom ⟨Nat.le_of_ble_eq_true rfl, Nat.le_of_ble_eq_true rfl⟩) hK w hA [16, 17, 18, 19, 20, 21, 22, 23, 24, 25, 26, 5, 6, 7, 8, 9, 10, 11, 12, 13, 14, 15] [0, 1, 2, 3, 4, 27, 28, 29, 30, 31, 32] [0, 1, 2, 3, 4, 22, 23, 24, 25, 26, 27, 28, 29, 30, 31, 32, 11, 12, 13, 14, 15, 16, 17, 18, 19, 20, 21, 5, 6, 7, 8, 9, 10] (by decide) rfl rfl (by decide) (by decide) rfl (by decide) rfl rfl rfl hl.1 rfl (Nat.le_of_ble_eq_true rfl) ⟨Nat.zero_le _, Nat.zero_le _⟩ (dk_at dkX5_reach 13 rfl) (fun H locs w => ?_)
    refine lv_iconst (v := 1) C.1 C.2.1 (dk_at dkX5_reach 14 rfl) (by decide) ?_
    refine lv_istore (lv' := [(4, .int 1), (2, .long 0), (0, .ref (a_v 0)), (1, .int p1)]) C.1 C.2.1 (dk_at dkX5_reach 15 rfl) hl (by decide) rfl (fun ls hl => ?_)
    have L10 : ∀ (K : Int32 → Int64 → CT → DT → Option (Int32 × CT × DT)), (∀ (v6 : Int32) (v7 : Int64) (tr_8 : CT) (da_9 : DT) (H : Heap) (locs : List Loc) (ls : Array Slot), Wd g A Z.heap (wV g a_v a_rd a_nw a_tr a_da a_i0 a_i1 a_s0 a_s1 a_s2 a_s3 v ++ wC g a_nw nw ++ wC g a_tr tr_8 ++ wD g a_da da_9) H locs → lv_has ls 6 [(2, .long v7)] → K v6 v7 tr_8 da_9 = some (res, tr_o, da_o) → W P l E rmX5_reach Z Mi AR BE ME CO H locs 0 0 Q (F0 Mi 71 ls [])) → ∀ (n : Nat), ∀ (v6 : Int32) (v7 : Int64) (tr_8 : CT) (da_9 : DT) (H : Heap) (locs : List Loc) (ls : Array Slot), Wd g A Z.heap (wV g a_v a_rd a_nw a_tr a_da a_i0 a_i1 a_s0 a_s1 a_s2 a_s3 v ++ wC g a_nw nw ++ wC g a_tr tr_8 ++ wD g a_da da_9) H locs → lv_has ls 6 [(4, .int v6), (2, .long v7), (0, .ref (a_v 0)), (1, .int p1)] → fX5_reach_L29 v p1 K n v6 v7 tr_8 da_9 = some (res, tr_o, da_o) → W P l E rmX5_reach Z Mi AR BE ME CO H locs 0 0 Q (F0 Mi 29 ls []) := by
      intro K hKe n
      induction n with
      | zero => intro v6 v7 tr_8 da_9 H locs ls w hl hf; cases hf
      | succ n ih =>
        intro v6 v7 tr_8 da_9 H locs ls w hl hf
        rw [fX5_reach_L29] at hf
        refine lv_iload C.1 C.2.1 (dk_at dkX5_reach 16 rfl) (lv_at hl 0 rfl) ?_
        refine lv_bipush (v := 9) C.1 C.2.1 (dk_at dkX5_reach 17 rfl) (by decide) ?_
        refine lv_icmp_gt (tgt := 71) C.1 C.2.1 (dk_at dkX5_reach 18 rfl) (by decide) (fun c11 => ?_) (fun c11 => ?_)
        · have hf := (if_pos c11).symm.trans hf
          exact hKe v6 v7 tr_8 da_9 _ _ _ w (lv_sub hl [1] rfl) hf
        · have hf := (if_neg c11).symm.trans hf
          refine lv_iconst (v := 0) C.1 C.2.1 (dk_at dkX5_reach 19 rfl) (by decide) ?_
          refine lv_istore (lv' := [(5, .int 0), (4, .int v6), (2, .long v7), (0, .ref (a_v 0)), (1, .int p1)]) C.1 C.2.1 (dk_at dkX5_reach 20 rfl) hl (by decide) rfl (fun ls hl => ?_)
          have L16 : ∀ (K : Int32 → Int64 → CT → DT → Option (Int32 × CT × DT)), (∀ (v12 : Int32) (v13 : Int64) (tr_14 : CT) (da_15 : DT) (H : Heap) (locs : List Loc) (ls : Array Slot), Wd g A Z.heap (wV g a_v a_rd a_nw a_tr a_da a_i0 a_i1 a_s0 a_s1 a_s2 a_s3 v ++ wC g a_nw nw ++ wC g a_tr tr_14 ++ wD g a_da da_15) H locs → lv_has ls 6 [(4, .int v6), (2, .long v13), (0, .ref (a_v 0)), (1, .int p1)] → K v12 v13 tr_14 da_15 = some (res, tr_o, da_o) → W P l E rmX5_reach Z Mi AR BE ME CO H locs 0 0 Q (F0 Mi 65 ls [])) → ∀ (n : Nat), ∀ (v12 : Int32) (v13 : Int64) (tr_14 : CT) (da_15 : DT) (H : Heap) (locs : List Loc) (ls : Array Slot), Wd g A Z.heap (wV g a_v a_rd a_nw a_tr a_da a_i0 a_i1 a_s0 a_s1 a_s2 a_s3 v ++ wC g a_nw nw ++ wC g a_tr tr_14 ++ wD g a_da da_15) H locs → lv_has ls 6 [(5, .int v12), (4, .int v6), (2, .long v13), (0, .ref (a_v 0)), (1, .int p1)] → fX5_reach_L39 v p1 v6 K n v12 v13 tr_14 da_15 = some (res, tr_o, da_o) → W P l E rmX5_reach Z Mi AR BE ME CO H locs 0 0 Q (F0 Mi 39 ls []) := by
            intro K hKe n
            induction n with
            | zero => intro v12 v13 tr_14 da_15 H locs ls w hl hf; cases hf
            | succ n ih =>
              intro v12 v13 tr_14 da_15 H locs ls w hl hf
              rw [fX5_reach_L39] at hf
              refine lv_iload C.1 C.2.1 (dk_at dkX5_reach 21 rfl) (lv_at hl 0 rfl) ?_
              refine lv_iconst (v := 4) C.1 C.2.1 (dk_at dkX5_reach 22 rfl) (by decide) ?_
              refine lv_icmp_ge (tgt := 65) C.1 C.2.1 (dk_at dkX5_reach 23 rfl) (by decide) (fun c17 => ?_) (fun c17 => ?_)
              · have hf := (if_pos c17).symm.trans hf
                exact hKe v12 v13 tr_14 da_15 _ _ _ w (lv_sub hl [1, 2, 3, 4] rfl) hf
              · have hf := (if_neg c17).symm.trans hf
                refine lv_lload_n C.1 C.2.1 (dk_at dkX5_reach 24 rfl) rfl (lv_at hl 2 rfl) ?_
                refine lv_lconst (v := 1) C.1 C.2.1 (dk_at dkX5_reach 25 rfl) (by decide) ?_
                refine lv_aload_n C.1 C.2.1 (dk_at dkX5_reach 26 rfl) rfl (lv_at hl 3 rfl) ?_
                refine lv_iload_n C.1 C.2.1 (dk_at dkX5_reach 27 rfl) rfl (lv_at hl 4 rfl) ?_
                refine lv_iload C.1 C.2.1 (dk_at dkX5_reach 28 rfl) (lv_at hl 0 rfl) ?_
                refine lv_iload C.1 C.2.1 (dk_at dkX5_reach 29 rfl) (lv_at hl 1 rfl) ?_
                obtain ⟨r18, tr_19, da_20, hq21, hf⟩ := bd3_at hf
                refine r_rwi (As := [.int p1, .int v12, .int v6]) (rest := [.long 1, .long v13]) (wr := wC g a_nw nw) (ws' := wV g a_v a_rd a_nw a_tr a_da a_i0 a_i1 a_s0 a_s1 a_s2 a_s3 v ++ wC g a_nw nw ++ wC g a_tr tr_19 ++ wD g a_da da_20) C (kX5_placeBy l g _ a_v a_rd a_nw a_tr a_da a_i0 a_i1 a_s0 a_s1 a_s2 a_s3 v tr_14 da_15 p1 v12 v6 r18 tr_19 da_20 hq21) (cwV0 C (inr29 _ (List.mem_of_getElem? (i := 12) rfl)) mwX5_placeBy hdX5_placeBy ⟨Nat.le_of_ble_eq_true rfl, Nat.le_of_ble_eq_true rfl⟩) hK w hA [0, 1, 2, 3, 4, 16, 17, 18, 19, 20, 21, 22, 23, 24, 25, 26, 27, 28, 29, 30, 31, 32] [5, 6, 7, 8, 9, 10, 11, 12, 13, 14, 15] [11, 12, 13, 14, 15, 0, 1, 2, 3, 4, 5, 6, 7, 8, 9, 10, 16, 17, 18, 19, 20, 21, 22, 23, 24, 25, 26, 27, 28, 29, 30, 31, 32] (by decide) rfl rfl (by decide) (by decide) rfl (by decide) rfl rfl rfl hl.1 rfl (Nat.le_of_ble_eq_true rfl) ⟨Nat.zero_le _, Nat.zero_le _⟩ (dk_at dkX5_reach 30 rfl) (fun H locs w => ?_)
                refine lv_lshl C.1 C.2.1 (dk_at dkX5_reach 31 rfl) rfl ?_
                refine lv_lor C.1 C.2.1 (dk_at dkX5_reach 32 rfl) ?_
                refine lv_topl (fun x22 ex22 => ?_)
                have hf := nm_at ex22 hf
                refine lv_lstore_n (lv' := [(2, .long x22), (5, .int v12), (4, .int v6), (0, .ref (a_v 0)), (1, .int p1)]) C.1 C.2.1 (dk_at dkX5_reach 33 rfl) rfl hl (by decide) rfl (fun ls hl => ?_)
                obtain ⟨x23, ex23⟩ : ∃ z : Int32, z = v12 + 1 := ⟨_, rfl⟩
                have hf := nm_at ex23 hf
                refine lv_iinc (v := x23) (lv' := [(5, .int x23), (2, .long x22), (4, .int v6), (0, .ref (a_v 0)), (1, .int p1)]) C.1 C.2.1 (dk_at dkX5_reach 34 rfl) hl (k := 1) rfl (by rw [ex23]; rfl) (by decide) rfl (fun ls hl => ?_)
                refine lv_goto (tgt := 39) C.1 C.2.1 (dk_at dkX5_reach 35 rfl) (by decide) ?_
                exact ih x23 x22 tr_19 da_20 _ _ _ w (lv_sub hl [0, 2, 1, 3, 4] rfl) hf
          refine L16 _ ?_ 4096 0 v7 tr_8 da_9 _ _ _ w (lv_sub hl [0, 1, 2, 3, 4] rfl) hf
          clear hf
          intro v12 v13 tr_14 da_15 H locs ls w hl hf
          obtain ⟨x24, ex24⟩ : ∃ z : Int32, z = v6 + 1 := ⟨_, rfl⟩
          have hf := nm_at ex24 hf
          refine lv_iinc (v := x24) (lv' := [(4, .int x24), (2, .long v13), (0, .ref (a_v 0)), (1, .int p1)]) C.1 C.2.1 (dk_at dkX5_reach 36 rfl) hl (k := 0) rfl (by rw [ex24]; rfl) (by decide) rfl (fun ls hl => ?_)
          refine lv_goto (tgt := 29) C.1 C.2.1 (dk_at dkX5_reach 37 rfl) (by decide) ?_
          exact ih x24 v13 tr_14 da_15 _ _ _ w (lv_sub hl [0, 1, 2, 3] rfl) hf
    refine L10 _ ?_ 4096 1 0 tr_4 da _ _ _ w (lv_sub hl [0, 1, 2, 3] rfl) hf
    clear hf
    intro v6 v7 tr_8 da_9 H locs ls w hl hf
    refine lv_lload_n C.1 C.2.1 (dk_at dkX5_reach 38 rfl) rfl (lv_at hl 0 rfl) ?_
    obtain ⟨r25, hq26, hf⟩ := bd1_at hf
    refine r_st (As := [.long v7]) (rest := []) C (kJ13_bitCount_95d88 l v7 r25 hq26) (cwS0 C (inr16 _ (List.mem_of_getElem? (i := 18) rfl)) mwJ13_bitCount_95d88 hdJ13_bitCount_95d88 ⟨Nat.le_of_ble_eq_true rfl, Nat.le_of_ble_eq_true rfl⟩) rfl hl.1 rfl (Nat.le_of_ble_eq_true rfl) ⟨Nat.zero_le _, Nat.zero_le _⟩ (dk_at dkX5_reach 39 rfl) ?_
    cases hf
    exact fin _ _ _ _ _ (dk_at dkX5_reach 40 rfl) rfl w
  · have hf := (if_pos c3).symm.trans hf
    refine lv_iconst (v := (-1)) C.1 C.2.1 (dk_at dkX5_reach 5 rfl) (by decide) ?_
    cases hf
    exact fin _ _ _ _ _ (dk_at dkX5_reach 6 rfl) rfl w
-- X5.screen
abbrev tbX5_screen : List (Nat × Instr × Nat) := [(0, .iload_n 1, 1), (1, .invokestatic 116, 3), (4, .ifCond .ne 5, 3), (7, .iconst (-1), 1), (8, .ireturn, 1), (9, .aload_n 0, 1), (10, .getfield 19, 3), (13, .getfield 83, 3), (16, .invokestatic 87, 3), (19, .bipush 12, 2), (21, .if_icmp .lt 6, 3), (24, .bipush (-3), 2), (26, .ireturn, 1), (27, .iload_n 1, 1), (28, .invokestatic 119, 3), (31, .istore_n 2, 1), (32, .aload_n 0, 1), (33, .getfield 29, 3), (36, .aload_n 0, 1), (37, .getfield 19, 3), (40, .invokevirtual 140, 3), (43, .aload_n 0, 1), (44, .getfield 29, 3), (47, .iload_n 2, 1), (48, .invokevirtual 154, 3), (51, .ifCond .ne 6, 3), (54, .bipush (-4), 2), (56, .ireturn, 1), (57, .aload_n 0, 1), (58, .getfield 23, 3), (61, .aload_n 0, 1), (62, .getfield 19, 3), (65, .invokevirtual 73, 3), (68, .iconst 0, 1), (69, .istore_n 3, 1), (70, .iload_n 3, 1), (71, .bipush 64, 2), (73, .if_icmp .ge 68, 3), (76, .aload_n 0, 1), (77, .getfield 19, 3), (80, .getfield 83, 3), (83, .iload_n 3, 1), (84, .invokestatic 123, 3), (87, .ifCond .ne 48, 3), (90, .aload_n 0, 1), (91, .getfield 23, 3), (94, .aload_n 0, 1), (95, .getfield 19, 3), (98, .getfield 83, 3), (101, .lconst 1, 1), (102, .iload_n 3, 1), (103, .lshl, 1), (104, .lor, 1), (105, .putfield 83, 3), (108, .aload_n 0, 1), (109, .getfield 29, 3), (112, .aload_n 0, 1), (113, .getfield 23, 3), (116, .invokevirtual 140, 3), (119, .aload_n 0, 1), (120, .getfield 29, 3), (123, .iload_n 2, 1), (124, .invokevirtual 154, 3), (127, .ifCond .ne 8, 3), (130, .iload_n 3, 1), (131, .invokestatic 145, 3), (134, .ireturn, 1), (135, .iinc 3 1, 3), (138, .goto (-68), 3), (141, .bipush (-4), 2), (143, .ireturn, 1)]
theorem dkX5_screen : dk cX5_screen tbX5_screen := dk_of (by decide +kernel)
abbrev cdX5_screen : Cond := Cond.code yX5_screen cX5_screen 4 (some .int)
abbrev rmX5_screen : Room := { frames := 4, cells := 0, slots := 0, locals := 93 }
theorem mwX5_screen : Cond.instanceMethod yX5_screen ∈ wsL_law ∧ Cond.selects RX5 yX5_screen yX5_screen ∈ wsL_law ∧ Cond.initialized RX5 ∈ wsL_law ∧ cdX5_screen ∈ wsL_law := ⟨inr30 _ (List.mem_of_getElem? (i := 13) rfl), inr30 _ (List.mem_of_getElem? (i := 14) rfl), inr1 _ (List.mem_of_getElem? (i := 2) rfl), inr30 _ (List.mem_of_getElem? (i := 15) rfl)⟩
theorem hdX5_screen : yX5_screen.cls = RX5 ∧ yX5_screen.cls ≠ "java/lang/invoke/MethodHandle" ∧ yX5_screen.cls ≠ "java/lang/invoke/VarHandle" ∧ (parseMethodDescriptor yX5_screen.desc).map (fun d => d.parameters.length) = some 1 := by decide +kernel
set_option maxHeartbeats 4000000 in
set_option maxRecDepth 100000 in
theorem kX5_screen (l : Launch) (g : Gx) (sz : Nat) (a_v a_rd a_nw a_tr a_da a_i0 a_i1 a_s0 a_s1 a_s2 a_s3 : Nat → Nat) (v : VT) (nw : CT) (tr : CT) (da : DT) (p1 : Int32) (res : Int32) (tr_o : CT) (da_o : DT) (hf : fX5_screen p1 v nw tr da = some (res, tr_o, da_o)) : Met l yX5_screen (cdX5_screen :: wsL_law) rmX5_screen (va_Pc [.ref (a_v 0), .int p1] (RWp g sz (wV g a_v a_rd a_nw a_tr a_da a_i0 a_i1 a_s0 a_s1 a_s2 a_s3 v ++ wC g a_nw nw ++ wC g a_tr tr ++ wD g a_da da))) (va_Qi (fun x (_ : Unit) => x = res) (fun _ => RWq g (va_A (wV g a_v a_rd a_nw a_tr a_da a_i0 a_i1 a_s0 a_s1 a_s2 a_s3 v ++ wC g a_nw nw ++ wC g a_tr tr ++ wD g a_da da) sz) (wV g a_v a_rd a_nw a_tr a_da a_i0 a_i1 a_s0 a_s1 a_s2 a_s3 v ++ wC g a_nw nw ++ wC g a_tr tr_o ++ wD g a_da da_o)) (va_A (wV g a_v a_rd a_nw a_tr a_da a_i0 a_i1 a_s0 a_s1 a_s2 a_s3 v ++ wC g a_nw nw ++ wC g a_tr tr ++ wD g a_da da) sz)) 0 0 (va_A (wV g a_v a_rd a_nw a_tr a_da a_i0 a_i1 a_s0 a_s1 a_s2 a_s3 v ++ wC g a_nw nw ++ wC g a_tr tr ++ wD g a_da da) sz) := by
  refine Met_rwi (cc := cX5_screen) (maxL := 4) (by decide) rfl (Nat.le_of_ble_eq_true rfl) ?_
  intro P E Z Mi AR BE ME CO A Q C hK hA fin w ls hl
  have hl : lv_has ls 4 [(0, .ref (a_v 0)), (1, .int p1)] := hl
  unfold fX5_screen at hf
  refine lv_iload_n C.1 C.2.1 (dk_at dkX5_screen 0 rfl) rfl (lv_at hl 1 rfl) ?_
  obtain ⟨r1, hq2, hf⟩ := bd1_at hf
  refine r_st (As := [.int p1]) (rest := []) C (kX3_isCell l p1 r1 hq2) (cwS0 C (inr19 _ (List.mem_of_getElem? (i := 19) rfl)) mwX3_isCell hdX3_isCell ⟨Nat.le_of_ble_eq_true rfl, Nat.le_of_ble_eq_true rfl⟩) rfl hl.1 rfl (Nat.le_of_ble_eq_true rfl) ⟨Nat.zero_le _, Nat.zero_le _⟩ (dk_at dkX5_screen 1 rfl) ?_
  refine lv_if_ne (tgt := 9) C.1 C.2.1 (dk_at dkX5_screen 2 rfl) (by decide) (fun c3 => ?_) (fun c3 => ?_)
  · have hf := (if_neg c3).symm.trans hf
    refine lv_aload_n C.1 C.2.1 (dk_at dkX5_screen 5 rfl) rfl (lv_at hl 0 rfl) ?_
    refine r_get (v := .ref (a_nw 0)) C hK w.1 (fun w h => List.mem_cons_of_mem _ (inlX5 w h)) 0 rfl rfl 1 (by decide) (List.mem_cons_of_mem _ (inr1 _ (List.mem_of_getElem? (i := 19) rfl))) rfl (dk_at dkX5_screen 6 rfl) ?_
    refine r_get (v := .long (cW nw)) C hK w.1 (fun w h => List.mem_cons_of_mem _ (inlX0 w h)) 5 rfl rfl 0 (by decide) (List.mem_cons_of_mem _ (inr16 _ (List.mem_of_getElem? (i := 17) rfl))) rfl (dk_at dkX5_screen 7 rfl) ?_
    obtain ⟨r4, hq5, hf⟩ := bd1_at hf
    refine r_st (As := [.long (cW nw)]) (rest := []) C (kJ13_bitCount_95d88 l (cW nw) r4 hq5) (cwS0 C (inr16 _ (List.mem_of_getElem? (i := 18) rfl)) mwJ13_bitCount_95d88 hdJ13_bitCount_95d88 ⟨Nat.le_of_ble_eq_true rfl, Nat.le_of_ble_eq_true rfl⟩) rfl hl.1 rfl (Nat.le_of_ble_eq_true rfl) ⟨Nat.zero_le _, Nat.zero_le _⟩ (dk_at dkX5_screen 8 rfl) ?_
    refine lv_bipush (v := 12) C.1 C.2.1 (dk_at dkX5_screen 9 rfl) (by decide) ?_
    refine lv_icmp_lt (tgt := 27) C.1 C.2.1 (dk_at dkX5_screen 10 rfl) (by decide) (fun c6 => ?_) (fun c6 => ?_)
    · have hf := (if_pos c6).symm.trans hf
      refine lv_iload_n C.1 C.2.1 (dk_at dkX5_screen 13 rfl) rfl (lv_at hl 1 rfl) ?_
      obtain ⟨r7, hq8, hf⟩ := bd1_at hf
      refine r_st (As := [.int p1]) (rest := []) C (kX3_placeOf l p1 r7 hq8) (cwS0 C (inr19 _ (List.mem_of_getElem? (i := 20) rfl)) mwX3_placeOf hdX3_placeOf ⟨Nat.le_of_ble_eq_true rfl, Nat.le_of_ble_eq_true rfl⟩) rfl hl.1 rfl (Nat.le_of_ble_eq_true rfl) ⟨Nat.zero_le _, Nat.zero_le _⟩ (dk_at dkX5_screen 14 rfl) ?_
      refine lv_istore_n (lv' := [(2, .int r7), (0, .ref (a_v 0)), (1, .int p1)]) C.1 C.2.1 (dk_at dkX5_screen 15 rfl) rfl hl (by decide) rfl (fun ls hl => ?_)
      refine lv_aload_n C.1 C.2.1 (dk_at dkX5_screen 16 rfl) rfl (lv_at hl 1 rfl) ?_
      refine r_get (v := .ref (a_da 0)) C hK w.1 (fun w h => List.mem_cons_of_mem _ (inlX5 w h)) 0 rfl rfl 3 (by decide) (List.mem_cons_of_mem _ (inr2 _ (List.mem_of_getElem? (i := 0) rfl))) rfl (dk_at dkX5_screen 17 rfl) ?_
      refine lv_aload_n C.1 C.2.1 (dk_at dkX5_screen 18 rfl) rfl (lv_at hl 1 rfl) ?_
      refine r_get (v := .ref (a_nw 0)) C hK w.1 (fun w h => List.mem_cons_of_mem _ (inlX5 w h)) 0 rfl rfl 1 (by decide) (List.mem_cons_of_mem _ (inr1 _ (List.mem_of_getElem? (i := 19) rfl))) rfl (dk_at dkX5_screen 19 rfl) ?_
      obtain ⟨da_9, hq10, hf⟩ := bd1_at hf
      refine r_rwv (As := [.ref (a_nw 0)]) (rest := []) (wr := wV g a_v a_rd a_nw a_tr a_da a_i0 a_i1 a_s0 a_s1 a_s2 a_s3 v ++ wC g a_tr tr) (ws' := wV g a_v a_rd a_nw a_tr a_da a_i0 a_i1 a_s0 a_s1 a_s2 a_s3 v ++ wC g a_nw nw ++ wC g a_tr tr ++ wD g a_da da_9) C (kX1_pass l g _ a_da a_nw da nw da_9 hq10) (cwV0 C (inr23 _ (List.mem_of_getElem? (i := 7) rfl)) mwX1_pass hdX1_pass ⟨Nat.le_of_ble_eq_true rfl, Nat.le_of_ble_eq_true rfl⟩) hK w hA [27, 28, 29, 30, 31, 32, 5, 6, 7, 8, 9, 10, 11, 12, 13, 14, 15] [0, 1, 2, 3, 4, 16, 17, 18, 19, 20, 21, 22, 23, 24, 25, 26] [0, 1, 2, 3, 4, 22, 23, 24, 25, 26, 27, 28, 29, 30, 31, 32, 5, 6, 7, 8, 9, 10, 11, 12, 13, 14, 15, 16, 17, 18, 19, 20, 21] (by decide) rfl rfl (by decide) (by decide) rfl (by decide) rfl rfl rfl hl.1 rfl (Nat.le_of_ble_eq_true rfl) ⟨Nat.zero_le _, Nat.zero_le _⟩ (dk_at dkX5_screen 20 rfl) (fun H locs w => ?_)
      refine lv_aload_n C.1 C.2.1 (dk_at dkX5_screen 21 rfl) rfl (lv_at hl 1 rfl) ?_
      refine r_get (v := .ref (a_da 0)) C hK w.1 (fun w h => List.mem_cons_of_mem _ (inlX5 w h)) 0 rfl rfl 3 (by decide) (List.mem_cons_of_mem _ (inr2 _ (List.mem_of_getElem? (i := 0) rfl))) rfl (dk_at dkX5_screen 22 rfl) ?_
      refine lv_iload_n C.1 C.2.1 (dk_at dkX5_screen 23 rfl) rfl (lv_at hl 0 rfl) ?_
      obtain ⟨r11, hq12, hf⟩ := bd1_at hf
      refine r_roV (As := [.int r7]) (rest := []) C (kX1_landedIn l g a_da da_9 r7 r11 hq12) (cwV0 C (inr26 _ (List.mem_of_getElem? (i := 1) rfl)) mwX1_landedIn hdX1_landedIn ⟨Nat.le_of_ble_eq_true rfl, Nat.le_of_ble_eq_true rfl⟩) hK (w.1.sub [27, 28, 29, 30, 31, 32] rfl) rfl rfl rfl hl.1 rfl (Nat.le_of_ble_eq_true rfl) ⟨Nat.zero_le _, Nat.zero_le _⟩ (dk_at dkX5_screen 24 rfl) ?_
      refine lv_if_ne (tgt := 57) C.1 C.2.1 (dk_at dkX5_screen 25 rfl) (by decide) (fun c13 => ?_) (fun c13 => ?_)
      · have hf := (if_neg c13).symm.trans hf
        refine lv_aload_n C.1 C.2.1 (dk_at dkX5_screen 28 rfl) rfl (lv_at hl 1 rfl) ?_
        refine r_get (v := .ref (a_tr 0)) C hK w.1 (fun w h => List.mem_cons_of_mem _ (inlX5 w h)) 0 rfl rfl 2 (by decide) (List.mem_cons_of_mem _ (inr1 _ (List.mem_of_getElem? (i := 20) rfl))) rfl (dk_at dkX5_screen 29 rfl) ?_
        refine lv_aload_n C.1 C.2.1 (dk_at dkX5_screen 30 rfl) rfl (lv_at hl 1 rfl) ?_
        refine r_get (v := .ref (a_nw 0)) C hK w.1 (fun w h => List.mem_cons_of_mem _ (inlX5 w h)) 0 rfl rfl 1 (by decide) (List.mem_cons_of_mem _ (inr1 _ (List.mem_of_getElem? (i := 19) rfl))) rfl (dk_at dkX5_screen 31 rfl) ?_
        obtain ⟨tr_14, hq15, hf⟩ := bd1_at hf
        refine r_rwv (As := [.ref (a_nw 0)]) (rest := []) (wr := wV g a_v a_rd a_nw a_tr a_da a_i0 a_i1 a_s0 a_s1 a_s2 a_s3 v ++ wD g a_da da_9) (ws' := wV g a_v a_rd a_nw a_tr a_da a_i0 a_i1 a_s0 a_s1 a_s2 a_s3 v ++ wC g a_nw nw ++ wC g a_tr tr_14 ++ wD g a_da da_9) C (kX0_copyTo l g _ a_tr a_nw tr nw tr_14 hq15) (cwV0 C (inr12 _ (List.mem_of_getElem? (i := 6) rfl)) mwX0_copyFrom hdX0_copyFrom ⟨Nat.le_of_ble_eq_true rfl, Nat.le_of_ble_eq_true rfl⟩) hK w hA [16, 17, 18, 19, 20, 21, 22, 23, 24, 25, 26, 5, 6, 7, 8, 9, 10, 11, 12, 13, 14, 15] [0, 1, 2, 3, 4, 27, 28, 29, 30, 31, 32] [0, 1, 2, 3, 4, 22, 23, 24, 25, 26, 27, 28, 29, 30, 31, 32, 11, 12, 13, 14, 15, 16, 17, 18, 19, 20, 21, 5, 6, 7, 8, 9, 10] (by decide) rfl rfl (by decide) (by decide) rfl (by decide) rfl rfl rfl hl.1 rfl (Nat.le_of_ble_eq_true rfl) ⟨Nat.zero_le _, Nat.zero_le _⟩ (dk_at dkX5_screen 32 rfl) (fun H locs w => ?_)
        refine lv_iconst (v := 0) C.1 C.2.1 (dk_at dkX5_screen 33 rfl) (by decide) ?_
        refine lv_istore_n (lv' := [(3, .int 0), (2, .int r7), (0, .ref (a_v 0)), (1, .int p1)]) C.1 C.2.1 (dk_at dkX5_screen 34 rfl) rfl hl (by decide) rfl (fun ls hl => ?_)
        have L19 : ∀ (K : Int32 → CT → DT → Option (Int32 × CT × DT)), (∀ (v16 : Int32) (tr_17 : CT) (da_18 : DT) (H : Heap) (locs : List Loc) (ls : Array Slot), Wd g A Z.heap (wV g a_v a_rd a_nw a_tr a_da a_i0 a_i1 a_s0 a_s1 a_s2 a_s3 v ++ wC g a_nw nw ++ wC g a_tr tr_17 ++ wD g a_da da_18) H locs → lv_has ls 4 [] → K v16 tr_17 da_18 = some (res, tr_o, da_o) → W P l E rmX5_screen Z Mi AR BE ME CO H locs 0 0 Q (F0 Mi 141 ls [])) → ∀ (n : Nat), ∀ (v16 : Int32) (tr_17 : CT) (da_18 : DT) (H : Heap) (locs : List Loc) (ls : Array Slot), Wd g A Z.heap (wV g a_v a_rd a_nw a_tr a_da a_i0 a_i1 a_s0 a_s1 a_s2 a_s3 v ++ wC g a_nw nw ++ wC g a_tr tr_17 ++ wD g a_da da_18) H locs → lv_has ls 4 [(3, .int v16), (2, .int r7), (0, .ref (a_v 0))] → fX5_screen_L70 nw r7 K n v16 tr_17 da_18 = some (res, tr_o, da_o) → W P l E rmX5_screen Z Mi AR BE ME CO H locs 0 0 Q (F0 Mi 70 ls []) := by
          intro K hKe n
          induction n with
          | zero => intro v16 tr_17 da_18 H locs ls w hl hf; cases hf
          | succ n ih =>
            intro v16 tr_17 da_18 H locs ls w hl hf
            rw [fX5_screen_L70] at hf
            refine lv_iload_n C.1 C.2.1 (dk_at dkX5_screen 35 rfl) rfl (lv_at hl 0 rfl) ?_
            refine lv_bipush (v := 64) C.1 C.2.1 (dk_at dkX5_screen 36 rfl) (by decide) ?_
            refine lv_icmp_ge (tgt := 141) C.1 C.2.1 (dk_at dkX5_screen 37 rfl) (by decide) (fun c20 => ?_) (fun c20 => ?_)
            · have hf := (if_pos c20).symm.trans hf
              exact hKe v16 tr_17 da_18 _ _ _ w (lv_sub hl [] rfl) hf
            · have hf := (if_neg c20).symm.trans hf
              refine lv_aload_n C.1 C.2.1 (dk_at dkX5_screen 38 rfl) rfl (lv_at hl 2 rfl) ?_
              refine r_get (v := .ref (a_nw 0)) C hK w.1 (fun w h => List.mem_cons_of_mem _ (inlX5 w h)) 0 rfl rfl 1 (by decide) (List.mem_cons_of_mem _ (inr1 _ (List.mem_of_getElem? (i := 19) rfl))) rfl (dk_at dkX5_screen 39 rfl) ?_
              refine r_get (v := .long (cW nw)) C hK w.1 (fun w h => List.mem_cons_of_mem _ (inlX0 w h)) 5 rfl rfl 0 (by decide) (List.mem_cons_of_mem _ (inr16 _ (List.mem_of_getElem? (i := 17) rfl))) rfl (dk_at dkX5_screen 40 rfl) ?_
              refine lv_iload_n C.1 C.2.1 (dk_at dkX5_screen 41 rfl) rfl (lv_at hl 0 rfl) ?_
              obtain ⟨r21, hq22, hf⟩ := bd1_at hf
              refine r_st (As := [.long (cW nw), .int v16]) (rest := []) C (kX3_has l (cW nw) v16 r21 hq22) (cwS0 C (inr19 _ (List.mem_of_getElem? (i := 21) rfl)) mwX3_has hdX3_has ⟨Nat.le_of_ble_eq_true rfl, Nat.le_of_ble_eq_true rfl⟩) rfl hl.1 rfl (Nat.le_of_ble_eq_true rfl) ⟨Nat.zero_le _, Nat.zero_le _⟩ (dk_at dkX5_screen 42 rfl) ?_
              refine lv_if_ne (tgt := 135) C.1 C.2.1 (dk_at dkX5_screen 43 rfl) (by decide) (fun c23 => ?_) (fun c23 => ?_)
              · have hf := (if_neg c23).symm.trans hf
                obtain ⟨x24, ex24⟩ : ∃ z : Int32, z = v16 + 1 := ⟨_, rfl⟩
                have hf := nm_at ex24 hf
                refine lv_iinc (v := x24) (lv' := [(3, .int x24), (2, .int r7), (0, .ref (a_v 0))]) C.1 C.2.1 (dk_at dkX5_screen 67 rfl) hl (k := 0) rfl (by rw [ex24]; rfl) (by decide) rfl (fun ls hl => ?_)
                refine lv_goto (tgt := 70) C.1 C.2.1 (dk_at dkX5_screen 68 rfl) (by decide) ?_
                exact ih x24 tr_17 da_18 _ _ _ w (lv_sub hl [0, 1, 2] rfl) hf
              · have hf := (if_pos c23).symm.trans hf
                refine lv_aload_n C.1 C.2.1 (dk_at dkX5_screen 44 rfl) rfl (lv_at hl 2 rfl) ?_
                refine r_get (v := .ref (a_tr 0)) C hK w.1 (fun w h => List.mem_cons_of_mem _ (inlX5 w h)) 0 rfl rfl 2 (by decide) (List.mem_cons_of_mem _ (inr1 _ (List.mem_of_getElem? (i := 20) rfl))) rfl (dk_at dkX5_screen 45 rfl) ?_
                refine lv_aload_n C.1 C.2.1 (dk_at dkX5_screen 46 rfl) rfl (lv_at hl 2 rfl) ?_
                refine r_get (v := .ref (a_nw 0)) C hK w.1 (fun w h => List.mem_cons_of_mem _ (inlX5 w h)) 0 rfl rfl 1 (by decide) (List.mem_cons_of_mem _ (inr1 _ (List.mem_of_getElem? (i := 19) rfl))) rfl (dk_at dkX5_screen 47 rfl) ?_
                refine r_get (v := .long (cW nw)) C hK w.1 (fun w h => List.mem_cons_of_mem _ (inlX0 w h)) 5 rfl rfl 0 (by decide) (List.mem_cons_of_mem _ (inr16 _ (List.mem_of_getElem? (i := 17) rfl))) rfl (dk_at dkX5_screen 48 rfl) ?_
                refine lv_lconst (v := 1) C.1 C.2.1 (dk_at dkX5_screen 49 rfl) (by decide) ?_
                refine lv_iload_n C.1 C.2.1 (dk_at dkX5_screen 50 rfl) rfl (lv_at hl 0 rfl) ?_
                refine lv_lshl C.1 C.2.1 (dk_at dkX5_screen 51 rfl) rfl ?_
                refine lv_lor C.1 C.2.1 (dk_at dkX5_screen 52 rfl) ?_
                refine lv_topl (fun x25 ex25 => ?_)
                have hf := nm_at ex25 hf
                refine r_put (v := .long x25) C hK w (fun w h => List.mem_cons_of_mem _ (inlX0 w h)) tyX0 tyX0_ok nmX0 16 rfl rfl 0 (by decide) (List.mem_cons_of_mem _ (inr16 _ (List.mem_of_getElem? (i := 17) rfl))) rfl rfl rfl (Nat.le_of_ble_eq_true rfl) (dk_at dkX5_screen 53 rfl) (fun H locs w => ?_)
                obtain ⟨tr_26, etr_26⟩ : ∃ z : CT, z = cW' tr_17 x25 := ⟨_, rfl⟩
                have hf := nm_at etr_26 hf
                have w : Wd g A Z.heap (wV g a_v a_rd a_nw a_tr a_da a_i0 a_i1 a_s0 a_s1 a_s2 a_s3 v ++ wC g a_nw nw ++ wC g a_tr tr_26 ++ wD g a_da da_18) H locs := by rw [etr_26]; exact w
                refine lv_aload_n C.1 C.2.1 (dk_at dkX5_screen 54 rfl) rfl (lv_at hl 2 rfl) ?_
                refine r_get (v := .ref (a_da 0)) C hK w.1 (fun w h => List.mem_cons_of_mem _ (inlX5 w h)) 0 rfl rfl 3 (by decide) (List.mem_cons_of_mem _ (inr2 _ (List.mem_of_getElem? (i := 0) rfl))) rfl (dk_at dkX5_screen 55 rfl) ?_
                refine lv_aload_n C.1 C.2.1 (dk_at dkX5_screen 56 rfl) rfl (lv_at hl 2 rfl) ?_
                refine r_get (v := .ref (a_tr 0)) C hK w.1 (fun w h => List.mem_cons_of_mem _ (inlX5 w h)) 0 rfl rfl 2 (by decide) (List.mem_cons_of_mem _ (inr1 _ (List.mem_of_getElem? (i := 20) rfl))) rfl (dk_at dkX5_screen 57 rfl) ?_
                obtain ⟨da_27, hq28, hf⟩ := bd1_at hf
                refine r_rwv (As := [.ref (a_tr 0)]) (rest := []) (wr := wV g a_v a_rd a_nw a_tr a_da a_i0 a_i1 a_s0 a_s1 a_s2 a_s3 v ++ wC g a_nw nw) (ws' := wV g a_v a_rd a_nw a_tr a_da a_i0 a_i1 a_s0 a_s1 a_s2 a_s3 v ++ wC g a_nw nw ++ wC g a_tr tr_26 ++ wD g a_da da_27) C (kX1_pass l g _ a_da a_tr da_18 tr_26 da_27 hq28) (cwV0 C (inr23 _ (List.mem_of_getElem? (i := 7) rfl)) mwX1_pass hdX1_pass ⟨Nat.le_of_ble_eq_true rfl, Nat.le_of_ble_eq_true rfl⟩) hK w hA [27, 28, 29, 30, 31, 32, 16, 17, 18, 19, 20, 21, 22, 23, 24, 25, 26] [0, 1, 2, 3, 4, 5, 6, 7, 8, 9, 10, 11, 12, 13, 14, 15] [0, 1, 2, 3, 4, 5, 6, 7, 8, 9, 10, 11, 12, 13, 14, 15, 22, 23, 24, 25, 26, 27, 28, 29, 30, 31, 32, 16, 17, 18, 19, 20, 21] (by decide) rfl rfl (by decide) (by decide) rfl (by decide) rfl rfl rfl hl.1 rfl (Nat.le_of_ble_eq_true rfl) ⟨Nat.zero_le _, Nat.zero_le _⟩ (dk_at dkX5_screen 58 rfl) (fun H locs w => ?_)
                refine lv_aload_n C.1 C.2.1 (dk_at dkX5_screen 59 rfl) rfl (lv_at hl 2 rfl) ?_
                refine r_get (v := .ref (a_da 0)) C hK w.1 (fun w h => List.mem_cons_of_mem _ (inlX5 w h)) 0 rfl rfl 3 (by decide) (List.mem_cons_of_mem _ (inr2 _ (List.mem_of_getElem? (i := 0) rfl))) rfl (dk_at dkX5_screen 60 rfl) ?_
                refine lv_iload_n C.1 C.2.1 (dk_at dkX5_screen 61 rfl) rfl (lv_at hl 1 rfl) ?_
                obtain ⟨r29, hq30, hf⟩ := bd1_at hf
                refine r_roV (As := [.int r7]) (rest := []) C (kX1_landedIn l g a_da da_27 r7 r29 hq30) (cwV0 C (inr26 _ (List.mem_of_getElem? (i := 1) rfl)) mwX1_landedIn hdX1_landedIn ⟨Nat.le_of_ble_eq_true rfl, Nat.le_of_ble_eq_true rfl⟩) hK (w.1.sub [27, 28, 29, 30, 31, 32] rfl) rfl rfl rfl hl.1 rfl (Nat.le_of_ble_eq_true rfl) ⟨Nat.zero_le _, Nat.zero_le _⟩ (dk_at dkX5_screen 62 rfl) ?_
                refine lv_if_ne (tgt := 135) C.1 C.2.1 (dk_at dkX5_screen 63 rfl) (by decide) (fun c31 => ?_) (fun c31 => ?_)
                · have hf := (if_neg c31).symm.trans hf
                  obtain ⟨x32, ex32⟩ : ∃ z : Int32, z = v16 + 1 := ⟨_, rfl⟩
                  have hf := nm_at ex32 hf
                  refine lv_iinc (v := x32) (lv' := [(3, .int x32), (2, .int r7), (0, .ref (a_v 0))]) C.1 C.2.1 (dk_at dkX5_screen 67 rfl) hl (k := 0) rfl (by rw [ex32]; rfl) (by decide) rfl (fun ls hl => ?_)
                  refine lv_goto (tgt := 70) C.1 C.2.1 (dk_at dkX5_screen 68 rfl) (by decide) ?_
                  exact ih x32 tr_26 da_27 _ _ _ w (lv_sub hl [0, 1, 2] rfl) hf
                · have hf := (if_pos c31).symm.trans hf
                  refine lv_iload_n C.1 C.2.1 (dk_at dkX5_screen 64 rfl) rfl (lv_at hl 0 rfl) ?_
                  obtain ⟨r33, hq34, hf⟩ := bd1_at hf
                  refine r_st (As := [.int v16]) (rest := []) C (kX3_cellOf l v16 r33 hq34) (cwS0 C (inr24 _ (List.mem_of_getElem? (i := 21) rfl)) mwX3_cellOf hdX3_cellOf ⟨Nat.le_of_ble_eq_true rfl, Nat.le_of_ble_eq_true rfl⟩) rfl hl.1 rfl (Nat.le_of_ble_eq_true rfl) ⟨Nat.zero_le _, Nat.zero_le _⟩ (dk_at dkX5_screen 65 rfl) ?_
                  cases hf
                  exact fin _ _ _ _ _ (dk_at dkX5_screen 66 rfl) rfl w
        refine L19 _ ?_ 4096 0 tr_14 da_9 _ _ _ w (lv_sub hl [0, 1, 2] rfl) hf
        clear hf
        intro v16 tr_17 da_18 H locs ls w hl hf
        refine lv_bipush (v := (-4)) C.1 C.2.1 (dk_at dkX5_screen 69 rfl) (by decide) ?_
        cases hf
        exact fin _ _ _ _ _ (dk_at dkX5_screen 70 rfl) rfl w
      · have hf := (if_pos c13).symm.trans hf
        refine lv_bipush (v := (-4)) C.1 C.2.1 (dk_at dkX5_screen 26 rfl) (by decide) ?_
        cases hf
        exact fin _ _ _ _ _ (dk_at dkX5_screen 27 rfl) rfl w
    · have hf := (if_neg c6).symm.trans hf
      refine lv_bipush (v := (-3)) C.1 C.2.1 (dk_at dkX5_screen 11 rfl) (by decide) ?_
      cases hf
      exact fin _ _ _ _ _ (dk_at dkX5_screen 12 rfl) rfl w
  · have hf := (if_pos c3).symm.trans hf
    refine lv_iconst (v := (-1)) C.1 C.2.1 (dk_at dkX5_screen 3 rfl) (by decide) ?_
    cases hf
    exact fin _ _ _ _ _ (dk_at dkX5_screen 4 rfl) rfl w
-- X5.closedIn
abbrev tbX5_closedIn : List (Nat × Instr × Nat) := [(0, .aload_n 0, 1), (1, .getfield 19, 3), (4, .getfield 83, 3), (7, .aload_n 0, 1), (8, .getfield 29, 3), (11, .iload_n 1, 1), (12, .invokevirtual 190, 3), (15, .lor, 1), (16, .lreturn, 1)]
theorem dkX5_closedIn : dk cX5_closedIn tbX5_closedIn := dk_of (by decide +kernel)
abbrev cdX5_closedIn : Cond := Cond.code yX5_closedIn cX5_closedIn 2 (some .long)
abbrev rmX5_closedIn : Room := { frames := 1, cells := 0, slots := 0, locals := 24 }
theorem mwX5_closedIn : Cond.instanceMethod yX5_closedIn ∈ wsL_law ∧ Cond.selects RX5 yX5_closedIn yX5_closedIn ∈ wsL_law ∧ Cond.initialized RX5 ∈ wsL_law ∧ cdX5_closedIn ∈ wsL_law := ⟨inr31 _ (List.mem_of_getElem? (i := 5) rfl), inr31 _ (List.mem_of_getElem? (i := 6) rfl), inr1 _ (List.mem_of_getElem? (i := 2) rfl), inr31 _ (List.mem_of_getElem? (i := 7) rfl)⟩
theorem hdX5_closedIn : yX5_closedIn.cls = RX5 ∧ yX5_closedIn.cls ≠ "java/lang/invoke/MethodHandle" ∧ yX5_closedIn.cls ≠ "java/lang/invoke/VarHandle" ∧ (parseMethodDescriptor yX5_closedIn.desc).map (fun d => d.parameters.length) = some 1 := by decide +kernel
set_option maxHeartbeats 4000000 in
set_option maxRecDepth 100000 in
theorem kX5_closedIn (l : Launch) (g : Gx) (a_v a_rd a_nw a_tr a_da a_i0 a_i1 a_s0 a_s1 a_s2 a_s3 : Nat → Nat) (v : VT) (nw : CT) (da : DT) (p1 : Int32) (res : Int64) (hf : fX5_closedIn p1 v nw da = some res) : Met l yX5_closedIn (cdX5_closedIn :: wsL_law) rmX5_closedIn (va_Pc [.ref (a_v 0), .int p1] (RO g (wV g a_v a_rd a_nw a_tr a_da a_i0 a_i1 a_s0 a_s1 a_s2 a_s3 v ++ wC g a_nw nw ++ wD g a_da da))) (vp_Sl (fun x => x = res)) 0 0 (fun _ => False) := by
  refine Met_rol (cc := cX5_closedIn) (maxL := 2) (by decide) rfl (Nat.le_of_ble_eq_true rfl) ?_
  intro P E Z Mi AR BE ME CO Q C fin hK hP ls hl
  have hl : lv_has ls 2 [(0, .ref (a_v 0)), (1, .int p1)] := hl
  unfold fX5_closedIn at hf
  refine lv_aload_n C.1 C.2.1 (dk_at dkX5_closedIn 0 rfl) rfl (lv_at hl 0 rfl) ?_
  refine r_get (v := .ref (a_nw 0)) C hK hP (fun w h => List.mem_cons_of_mem _ (inlX5 w h)) 0 rfl rfl 1 (by decide) (List.mem_cons_of_mem _ (inr1 _ (List.mem_of_getElem? (i := 19) rfl))) rfl (dk_at dkX5_closedIn 1 rfl) ?_
  refine r_get (v := .long (cW nw)) C hK hP (fun w h => List.mem_cons_of_mem _ (inlX0 w h)) 5 rfl rfl 0 (by decide) (List.mem_cons_of_mem _ (inr16 _ (List.mem_of_getElem? (i := 17) rfl))) rfl (dk_at dkX5_closedIn 2 rfl) ?_
  refine lv_aload_n C.1 C.2.1 (dk_at dkX5_closedIn 3 rfl) rfl (lv_at hl 0 rfl) ?_
  refine r_get (v := .ref (a_da 0)) C hK hP (fun w h => List.mem_cons_of_mem _ (inlX5 w h)) 0 rfl rfl 3 (by decide) (List.mem_cons_of_mem _ (inr2 _ (List.mem_of_getElem? (i := 0) rfl))) rfl (dk_at dkX5_closedIn 4 rfl) ?_
  refine lv_iload_n C.1 C.2.1 (dk_at dkX5_closedIn 5 rfl) rfl (lv_at hl 1 rfl) ?_
  obtain ⟨r1, hq2, hf⟩ := bd1_at hf
  refine r_roVl (As := [.int p1]) (rest := [.long (cW nw)]) C (kX1_landingsOf l g a_da da p1 r1 hq2) (cwV0 C (inr31 _ (List.mem_of_getElem? (i := 8) rfl)) mwX1_landingsOf hdX1_landingsOf ⟨Nat.le_of_ble_eq_true rfl, Nat.le_of_ble_eq_true rfl⟩) hK (hP.sub [16, 17, 18, 19, 20, 21] rfl) rfl rfl rfl hl.1 rfl (Nat.le_of_ble_eq_true rfl) ⟨Nat.zero_le _, Nat.zero_le _⟩ (dk_at dkX5_closedIn 6 rfl) ?_
  refine lv_lor C.1 C.2.1 (dk_at dkX5_closedIn 7 rfl) ?_
  refine lv_topl (fun x3 ex3 => ?_)
  have hf := nm_at ex3 hf
  cases hf
  exact fin _ _ _ (dk_at dkX5_closedIn 8 rfl) rfl
-- X5.beginWalks
abbrev tbX5_beginWalks : List (Nat × Instr × Nat) := [(0, .lconst 1, 1), (1, .iload_n 1, 1), (2, .invokestatic 119, 3), (5, .lshl, 1), (6, .aload_n 0, 1), (7, .iconst 0, 1), (8, .invokevirtual 183, 3), (11, .ldc2_w 134, 3), (14, .lxor, 1), (15, .land, 1), (16, .lreturn, 1)]
theorem dkX5_beginWalks : dk cX5_beginWalks tbX5_beginWalks := dk_of (by decide +kernel)
abbrev cdX5_beginWalks : Cond := Cond.code yX5_beginWalks cX5_beginWalks 2 (some .long)
abbrev rmX5_beginWalks : Room := { frames := 2, cells := 0, slots := 0, locals := 45 }
theorem mwX5_beginWalks : Cond.instanceMethod yX5_beginWalks ∈ wsL_law ∧ Cond.selects RX5 yX5_beginWalks yX5_beginWalks ∈ wsL_law ∧ Cond.initialized RX5 ∈ wsL_law ∧ cdX5_beginWalks ∈ wsL_law := ⟨inr31 _ (List.mem_of_getElem? (i := 1) rfl), inr31 _ (List.mem_of_getElem? (i := 2) rfl), inr1 _ (List.mem_of_getElem? (i := 2) rfl), inr31 _ (List.mem_of_getElem? (i := 3) rfl)⟩
theorem hdX5_beginWalks : yX5_beginWalks.cls = RX5 ∧ yX5_beginWalks.cls ≠ "java/lang/invoke/MethodHandle" ∧ yX5_beginWalks.cls ≠ "java/lang/invoke/VarHandle" ∧ (parseMethodDescriptor yX5_beginWalks.desc).map (fun d => d.parameters.length) = some 1 := by decide +kernel
set_option maxHeartbeats 4000000 in
set_option maxRecDepth 100000 in
theorem kX5_beginWalks (l : Launch) (g : Gx) (a_v a_rd a_nw a_tr a_da a_i0 a_i1 a_s0 a_s1 a_s2 a_s3 : Nat → Nat) (v : VT) (nw : CT) (da : DT) (p1 : Int32) (res : Int64) (hf : fX5_beginWalks p1 v nw da = some res) : Met l yX5_beginWalks (cdX5_beginWalks :: wsL_law) rmX5_beginWalks (va_Pc [.ref (a_v 0), .int p1] (RO g (wV g a_v a_rd a_nw a_tr a_da a_i0 a_i1 a_s0 a_s1 a_s2 a_s3 v ++ wC g a_nw nw ++ wD g a_da da))) (vp_Sl (fun x => x = res)) 0 0 (fun _ => False) := by
  refine Met_rol (cc := cX5_beginWalks) (maxL := 2) (by decide) rfl (Nat.le_of_ble_eq_true rfl) ?_
  intro P E Z Mi AR BE ME CO Q C fin hK hP ls hl
  have hl : lv_has ls 2 [(0, .ref (a_v 0)), (1, .int p1)] := hl
  unfold fX5_beginWalks at hf
  refine lv_lconst (v := 1) C.1 C.2.1 (dk_at dkX5_beginWalks 0 rfl) (by decide) ?_
  refine lv_iload_n C.1 C.2.1 (dk_at dkX5_beginWalks 1 rfl) rfl (lv_at hl 1 rfl) ?_
  obtain ⟨r1, hq2, hf⟩ := bd1_at hf
  refine r_st (As := [.int p1]) (rest := [.long 1]) C (kX3_placeOf l p1 r1 hq2) (cwS0 C (inr19 _ (List.mem_of_getElem? (i := 20) rfl)) mwX3_placeOf hdX3_placeOf ⟨Nat.le_of_ble_eq_true rfl, Nat.le_of_ble_eq_true rfl⟩) rfl hl.1 rfl (Nat.le_of_ble_eq_true rfl) ⟨Nat.zero_le _, Nat.zero_le _⟩ (dk_at dkX5_beginWalks 2 rfl) ?_
  refine lv_lshl C.1 C.2.1 (dk_at dkX5_beginWalks 3 rfl) rfl ?_
  refine lv_topl (fun x3 ex3 => ?_)
  have hf := nm_at ex3 hf
  refine lv_aload_n C.1 C.2.1 (dk_at dkX5_beginWalks 4 rfl) rfl (lv_at hl 0 rfl) ?_
  refine lv_iconst (v := 0) C.1 C.2.1 (dk_at dkX5_beginWalks 5 rfl) (by decide) ?_
  obtain ⟨r4, hq5, hf⟩ := bd1_at hf
  refine r_roVl (As := [.int 0]) (rest := [.long x3]) C (kX5_closedIn l g a_v a_rd a_nw a_tr a_da a_i0 a_i1 a_s0 a_s1 a_s2 a_s3 v nw da 0 r4 hq5) (cwV0 C (inr31 _ (List.mem_of_getElem? (i := 4) rfl)) mwX5_closedIn hdX5_closedIn ⟨Nat.le_of_ble_eq_true rfl, Nat.le_of_ble_eq_true rfl⟩) hK hP rfl rfl rfl hl.1 rfl (Nat.le_of_ble_eq_true rfl) ⟨Nat.zero_le _, Nat.zero_le _⟩ (dk_at dkX5_beginWalks 6 rfl) ?_
  refine lv_ldc2 (v := (-1)) C.1 C.2.1 C.2.2.2.1 (C.2.2.2.2 _ (List.mem_cons_of_mem _ (inr21 _ (List.mem_of_getElem? (i := 21) rfl)))) (dk_at dkX5_beginWalks 7 rfl) ?_
  refine lv_lxor C.1 C.2.1 (dk_at dkX5_beginWalks 8 rfl) ?_
  refine lv_land C.1 C.2.1 (dk_at dkX5_beginWalks 9 rfl) ?_
  refine lv_topl (fun x6 ex6 => ?_)
  have hf := nm_at ex6 hf
  cases hf
  exact fin _ _ _ (dk_at dkX5_beginWalks 10 rfl) rfl
-- X5.goOn
abbrev tbX5_goOn : List (Nat × Instr × Nat) := [(0, .lload_n 1, 1), (1, .invokestatic 186, 3), (4, .aload_n 0, 1), (5, .iload_n 3, 1), (6, .invokevirtual 183, 3), (9, .ldc2_w 134, 3), (12, .lxor, 1), (13, .land, 1), (14, .lreturn, 1)]
theorem dkX5_goOn : dk cX5_goOn tbX5_goOn := dk_of (by decide +kernel)
abbrev cdX5_goOn : Cond := Cond.code yX5_goOn cX5_goOn 4 (some .long)
abbrev rmX5_goOn : Room := { frames := 2, cells := 0, slots := 0, locals := 45 }
theorem mwX5_goOn : Cond.instanceMethod yX5_goOn ∈ wsL_law ∧ Cond.selects RX5 yX5_goOn yX5_goOn ∈ wsL_law ∧ Cond.initialized RX5 ∈ wsL_law ∧ cdX5_goOn ∈ wsL_law := ⟨inr31 _ (List.mem_of_getElem? (i := 13) rfl), inr31 _ (List.mem_of_getElem? (i := 14) rfl), inr1 _ (List.mem_of_getElem? (i := 2) rfl), inr31 _ (List.mem_of_getElem? (i := 15) rfl)⟩
theorem hdX5_goOn : yX5_goOn.cls = RX5 ∧ yX5_goOn.cls ≠ "java/lang/invoke/MethodHandle" ∧ yX5_goOn.cls ≠ "java/lang/invoke/VarHandle" ∧ (parseMethodDescriptor yX5_goOn.desc).map (fun d => d.parameters.length) = some 2 := by decide +kernel
set_option maxHeartbeats 4000000 in
set_option maxRecDepth 100000 in
theorem kX5_goOn (l : Launch) (g : Gx) (a_v a_rd a_nw a_tr a_da a_i0 a_i1 a_s0 a_s1 a_s2 a_s3 : Nat → Nat) (v : VT) (nw : CT) (da : DT) (p1 : Int64) (p2 : Int32) (res : Int64) (hf : fX5_goOn p1 p2 v nw da = some res) : Met l yX5_goOn (cdX5_goOn :: wsL_law) rmX5_goOn (va_Pc [.ref (a_v 0), .long p1, .int p2] (RO g (wV g a_v a_rd a_nw a_tr a_da a_i0 a_i1 a_s0 a_s1 a_s2 a_s3 v ++ wC g a_nw nw ++ wD g a_da da))) (vp_Sl (fun x => x = res)) 0 0 (fun _ => False) := by
  refine Met_rol (cc := cX5_goOn) (maxL := 4) (by decide) rfl (Nat.le_of_ble_eq_true rfl) ?_
  intro P E Z Mi AR BE ME CO Q C fin hK hP ls hl
  have hl : lv_has ls 4 [(0, .ref (a_v 0)), (1, .long p1), (3, .int p2)] := hl
  unfold fX5_goOn at hf
  refine lv_lload_n C.1 C.2.1 (dk_at dkX5_goOn 0 rfl) rfl (lv_at hl 1 rfl) ?_
  obtain ⟨r1, hq2, hf⟩ := bd1_at hf
  refine r_stl (As := [.long p1]) (rest := []) C (kX3_spread l p1 r1 hq2) (cwS0 C (inr31 _ (List.mem_of_getElem? (i := 16) rfl)) mwX3_spread hdX3_spread ⟨Nat.le_of_ble_eq_true rfl, Nat.le_of_ble_eq_true rfl⟩) rfl hl.1 rfl (Nat.le_of_ble_eq_true rfl) ⟨Nat.zero_le _, Nat.zero_le _⟩ (dk_at dkX5_goOn 1 rfl) ?_
  refine lv_aload_n C.1 C.2.1 (dk_at dkX5_goOn 2 rfl) rfl (lv_at hl 0 rfl) ?_
  refine lv_iload_n C.1 C.2.1 (dk_at dkX5_goOn 3 rfl) rfl (lv_at hl 2 rfl) ?_
  obtain ⟨r3, hq4, hf⟩ := bd1_at hf
  refine r_roVl (As := [.int p2]) (rest := [.long r1]) C (kX5_closedIn l g a_v a_rd a_nw a_tr a_da a_i0 a_i1 a_s0 a_s1 a_s2 a_s3 v nw da p2 r3 hq4) (cwV0 C (inr31 _ (List.mem_of_getElem? (i := 4) rfl)) mwX5_closedIn hdX5_closedIn ⟨Nat.le_of_ble_eq_true rfl, Nat.le_of_ble_eq_true rfl⟩) hK hP rfl rfl rfl hl.1 rfl (Nat.le_of_ble_eq_true rfl) ⟨Nat.zero_le _, Nat.zero_le _⟩ (dk_at dkX5_goOn 4 rfl) ?_
  refine lv_ldc2 (v := (-1)) C.1 C.2.1 C.2.2.2.1 (C.2.2.2.2 _ (List.mem_cons_of_mem _ (inr21 _ (List.mem_of_getElem? (i := 21) rfl)))) (dk_at dkX5_goOn 5 rfl) ?_
  refine lv_lxor C.1 C.2.1 (dk_at dkX5_goOn 6 rfl) ?_
  refine lv_land C.1 C.2.1 (dk_at dkX5_goOn 7 rfl) ?_
  refine lv_topl (fun x5 ex5 => ?_)
  have hf := nm_at ex5 hf
  cases hf
  exact fin _ _ _ (dk_at dkX5_goOn 8 rfl) rfl
-- X5.walk
abbrev tbX5_walk : List (Nat × Instr × Nat) := [(0, .iload_n 1, 1), (1, .invokestatic 116, 3), (4, .ifCond .eq 10, 3), (7, .iload_n 2, 1), (8, .invokestatic 116, 3), (11, .ifCond .ne 5, 3), (14, .iconst (-1), 1), (15, .ireturn, 1), (16, .aload_n 0, 1), (17, .getfield 29, 3), (20, .aload_n 0, 1), (21, .getfield 19, 3), (24, .invokevirtual 140, 3), (27, .iload_n 2, 1), (28, .invokestatic 119, 3), (31, .istore_n 3, 1), (32, .aload_n 0, 1), (33, .iload_n 1, 1), (34, .invokevirtual 175, 3), (37, .lstore 4, 2), (39, .iconst 0, 1), (40, .istore 6, 2), (42, .iload 6, 2), (44, .bipush 10, 2), (46, .if_icmp .ge 36, 3), (49, .iload 6, 2), (51, .ifCond .le 13, 3), (54, .aload_n 0, 1), (55, .lload 4, 2), (57, .iload 6, 2), (59, .invokevirtual 179, 3), (62, .lstore 4, 2), (64, .lload 4, 2), (66, .iload_n 3, 1), (67, .invokestatic 123, 3), (70, .ifCond .eq 6, 3), (73, .iload 6, 2), (75, .ireturn, 1), (76, .iinc 6 1, 3), (79, .goto (-37), 3), (82, .bipush (-4), 2), (84, .ireturn, 1)]
theorem dkX5_walk : dk cX5_walk tbX5_walk := dk_of (by decide +kernel)
abbrev cdX5_walk : Cond := Cond.code yX5_walk cX5_walk 7 (some .int)
abbrev rmX5_walk : Room := { frames := 4, cells := 0, slots := 0, locals := 93 }
theorem mwX5_walk : Cond.instanceMethod yX5_walk ∈ wsL_law ∧ Cond.selects RX5 yX5_walk yX5_walk ∈ wsL_law ∧ Cond.initialized RX5 ∈ wsL_law ∧ cdX5_walk ∈ wsL_law := ⟨inr30 _ (List.mem_of_getElem? (i := 21) rfl), inr30 _ (List.mem_of_getElem? (i := 22) rfl), inr1 _ (List.mem_of_getElem? (i := 2) rfl), inr30 _ (List.mem_of_getElem? (i := 23) rfl)⟩
theorem hdX5_walk : yX5_walk.cls = RX5 ∧ yX5_walk.cls ≠ "java/lang/invoke/MethodHandle" ∧ yX5_walk.cls ≠ "java/lang/invoke/VarHandle" ∧ (parseMethodDescriptor yX5_walk.desc).map (fun d => d.parameters.length) = some 2 := by decide +kernel
set_option maxHeartbeats 4000000 in
set_option maxRecDepth 100000 in
theorem kX5_walk (l : Launch) (g : Gx) (sz : Nat) (a_v a_rd a_nw a_tr a_da a_i0 a_i1 a_s0 a_s1 a_s2 a_s3 : Nat → Nat) (v : VT) (nw : CT) (da : DT) (p1 : Int32) (p2 : Int32) (res : Int32) (da_o : DT) (hf : fX5_walk p1 p2 v nw da = some (res, da_o)) : Met l yX5_walk (cdX5_walk :: wsL_law) rmX5_walk (va_Pc [.ref (a_v 0), .int p1, .int p2] (RWp g sz (wV g a_v a_rd a_nw a_tr a_da a_i0 a_i1 a_s0 a_s1 a_s2 a_s3 v ++ wC g a_nw nw ++ wD g a_da da))) (va_Qi (fun x (_ : Unit) => x = res) (fun _ => RWq g (va_A (wV g a_v a_rd a_nw a_tr a_da a_i0 a_i1 a_s0 a_s1 a_s2 a_s3 v ++ wC g a_nw nw ++ wD g a_da da) sz) (wV g a_v a_rd a_nw a_tr a_da a_i0 a_i1 a_s0 a_s1 a_s2 a_s3 v ++ wC g a_nw nw ++ wD g a_da da_o)) (va_A (wV g a_v a_rd a_nw a_tr a_da a_i0 a_i1 a_s0 a_s1 a_s2 a_s3 v ++ wC g a_nw nw ++ wD g a_da da) sz)) 0 0 (va_A (wV g a_v a_rd a_nw a_tr a_da a_i0 a_i1 a_s0 a_s1 a_s2 a_s3 v ++ wC g a_nw nw ++ wD g a_da da) sz) := by
  refine Met_rwi (cc := cX5_walk) (maxL := 7) (by decide) rfl (Nat.le_of_ble_eq_true rfl) ?_
  intro P E Z Mi AR BE ME CO A Q C hK hA fin w ls hl
  have hl : lv_has ls 7 [(0, .ref (a_v 0)), (1, .int p1), (2, .int p2)] := hl
  unfold fX5_walk at hf
  refine lv_iload_n C.1 C.2.1 (dk_at dkX5_walk 0 rfl) rfl (lv_at hl 1 rfl) ?_
  obtain ⟨r1, hq2, hf⟩ := bd1_at hf
  refine r_st (As := [.int p1]) (rest := []) C (kX3_isCell l p1 r1 hq2) (cwS0 C (inr19 _ (List.mem_of_getElem? (i := 19) rfl)) mwX3_isCell hdX3_isCell ⟨Nat.le_of_ble_eq_true rfl, Nat.le_of_ble_eq_true rfl⟩) rfl hl.1 rfl (Nat.le_of_ble_eq_true rfl) ⟨Nat.zero_le _, Nat.zero_le _⟩ (dk_at dkX5_walk 1 rfl) ?_
  refine lv_if_eq (tgt := 14) C.1 C.2.1 (dk_at dkX5_walk 2 rfl) (by decide) (fun c3 => ?_) (fun c3 => ?_)
  · have hf := (if_pos c3).symm.trans hf
    refine lv_iconst (v := (-1)) C.1 C.2.1 (dk_at dkX5_walk 6 rfl) (by decide) ?_
    cases hf
    exact fin _ _ _ _ _ (dk_at dkX5_walk 7 rfl) rfl w
  · have hf := (if_neg c3).symm.trans hf
    refine lv_iload_n C.1 C.2.1 (dk_at dkX5_walk 3 rfl) rfl (lv_at hl 2 rfl) ?_
    obtain ⟨r4, hq5, hf⟩ := bd1_at hf
    refine r_st (As := [.int p2]) (rest := []) C (kX3_isCell l p2 r4 hq5) (cwS0 C (inr19 _ (List.mem_of_getElem? (i := 19) rfl)) mwX3_isCell hdX3_isCell ⟨Nat.le_of_ble_eq_true rfl, Nat.le_of_ble_eq_true rfl⟩) rfl hl.1 rfl (Nat.le_of_ble_eq_true rfl) ⟨Nat.zero_le _, Nat.zero_le _⟩ (dk_at dkX5_walk 4 rfl) ?_
    refine lv_if_ne (tgt := 16) C.1 C.2.1 (dk_at dkX5_walk 5 rfl) (by decide) (fun c6 => ?_) (fun c6 => ?_)
    · have hf := (if_neg c6).symm.trans hf
      refine lv_aload_n C.1 C.2.1 (dk_at dkX5_walk 8 rfl) rfl (lv_at hl 0 rfl) ?_
      refine r_get (v := .ref (a_da 0)) C hK w.1 (fun w h => List.mem_cons_of_mem _ (inlX5 w h)) 0 rfl rfl 3 (by decide) (List.mem_cons_of_mem _ (inr2 _ (List.mem_of_getElem? (i := 0) rfl))) rfl (dk_at dkX5_walk 9 rfl) ?_
      refine lv_aload_n C.1 C.2.1 (dk_at dkX5_walk 10 rfl) rfl (lv_at hl 0 rfl) ?_
      refine r_get (v := .ref (a_nw 0)) C hK w.1 (fun w h => List.mem_cons_of_mem _ (inlX5 w h)) 0 rfl rfl 1 (by decide) (List.mem_cons_of_mem _ (inr1 _ (List.mem_of_getElem? (i := 19) rfl))) rfl (dk_at dkX5_walk 11 rfl) ?_
      obtain ⟨da_7, hq8, hf⟩ := bd1_at hf
      refine r_rwv (As := [.ref (a_nw 0)]) (rest := []) (wr := wV g a_v a_rd a_nw a_tr a_da a_i0 a_i1 a_s0 a_s1 a_s2 a_s3 v) (ws' := wV g a_v a_rd a_nw a_tr a_da a_i0 a_i1 a_s0 a_s1 a_s2 a_s3 v ++ wC g a_nw nw ++ wD g a_da da_7) C (kX1_pass l g _ a_da a_nw da nw da_7 hq8) (cwV0 C (inr23 _ (List.mem_of_getElem? (i := 7) rfl)) mwX1_pass hdX1_pass ⟨Nat.le_of_ble_eq_true rfl, Nat.le_of_ble_eq_true rfl⟩) hK w hA [16, 17, 18, 19, 20, 21, 5, 6, 7, 8, 9, 10, 11, 12, 13, 14, 15] [0, 1, 2, 3, 4] [0, 1, 2, 3, 4, 11, 12, 13, 14, 15, 16, 17, 18, 19, 20, 21, 5, 6, 7, 8, 9, 10] (by decide) rfl rfl (by decide) (by decide) rfl (by decide) rfl rfl rfl hl.1 rfl (Nat.le_of_ble_eq_true rfl) ⟨Nat.zero_le _, Nat.zero_le _⟩ (dk_at dkX5_walk 12 rfl) (fun H locs w => ?_)
      refine lv_iload_n C.1 C.2.1 (dk_at dkX5_walk 13 rfl) rfl (lv_at hl 2 rfl) ?_
      obtain ⟨r9, hq10, hf⟩ := bd1_at hf
      refine r_st (As := [.int p2]) (rest := []) C (kX3_placeOf l p2 r9 hq10) (cwS0 C (inr19 _ (List.mem_of_getElem? (i := 20) rfl)) mwX3_placeOf hdX3_placeOf ⟨Nat.le_of_ble_eq_true rfl, Nat.le_of_ble_eq_true rfl⟩) rfl hl.1 rfl (Nat.le_of_ble_eq_true rfl) ⟨Nat.zero_le _, Nat.zero_le _⟩ (dk_at dkX5_walk 14 rfl) ?_
      refine lv_istore_n (lv' := [(3, .int r9), (0, .ref (a_v 0)), (1, .int p1), (2, .int p2)]) C.1 C.2.1 (dk_at dkX5_walk 15 rfl) rfl hl (by decide) rfl (fun ls hl => ?_)
      refine lv_aload_n C.1 C.2.1 (dk_at dkX5_walk 16 rfl) rfl (lv_at hl 1 rfl) ?_
      refine lv_iload_n C.1 C.2.1 (dk_at dkX5_walk 17 rfl) rfl (lv_at hl 2 rfl) ?_
      obtain ⟨r11, hq12, hf⟩ := bd1_at hf
      refine r_roVl (As := [.int p1]) (rest := []) C (kX5_beginWalks l g a_v a_rd a_nw a_tr a_da a_i0 a_i1 a_s0 a_s1 a_s2 a_s3 v nw da_7 p1 r11 hq12) (cwV0 C (inr31 _ (List.mem_of_getElem? (i := 0) rfl)) mwX5_beginWalks hdX5_beginWalks ⟨Nat.le_of_ble_eq_true rfl, Nat.le_of_ble_eq_true rfl⟩) hK w.1 rfl rfl rfl hl.1 rfl (Nat.le_of_ble_eq_true rfl) ⟨Nat.zero_le _, Nat.zero_le _⟩ (dk_at dkX5_walk 18 rfl) ?_
      refine lv_lstore (lv' := [(4, .long r11), (3, .int r9), (0, .ref (a_v 0)), (1, .int p1), (2, .int p2)]) C.1 C.2.1 (dk_at dkX5_walk 19 rfl) hl (by decide) rfl (fun ls hl => ?_)
      refine lv_iconst (v := 0) C.1 C.2.1 (dk_at dkX5_walk 20 rfl) (by decide) ?_
      refine lv_istore (lv' := [(6, .int 0), (4, .long r11), (3, .int r9), (0, .ref (a_v 0)), (1, .int p1), (2, .int p2)]) C.1 C.2.1 (dk_at dkX5_walk 21 rfl) hl (by decide) rfl (fun ls hl => ?_)
      have L15 : ∀ (K : Int32 → Int64 → Option (Int32 × DT)), (∀ (v13 : Int32) (v14 : Int64) (H : Heap) (locs : List Loc) (ls : Array Slot), Wd g A Z.heap (wV g a_v a_rd a_nw a_tr a_da a_i0 a_i1 a_s0 a_s1 a_s2 a_s3 v ++ wC g a_nw nw ++ wD g a_da da_7) H locs → lv_has ls 7 [] → K v13 v14 = some (res, da_o) → W P l E rmX5_walk Z Mi AR BE ME CO H locs 0 0 Q (F0 Mi 82 ls [])) → ∀ (n : Nat), ∀ (v13 : Int32) (v14 : Int64) (H : Heap) (locs : List Loc) (ls : Array Slot), Wd g A Z.heap (wV g a_v a_rd a_nw a_tr a_da a_i0 a_i1 a_s0 a_s1 a_s2 a_s3 v ++ wC g a_nw nw ++ wD g a_da da_7) H locs → lv_has ls 7 [(6, .int v13), (4, .long v14), (3, .int r9), (0, .ref (a_v 0))] → fX5_walk_L42 v nw da_7 r9 K n v13 v14 = some (res, da_o) → W P l E rmX5_walk Z Mi AR BE ME CO H locs 0 0 Q (F0 Mi 42 ls []) := by
        intro K hKe n
        induction n with
        | zero => intro v13 v14 H locs ls w hl hf; cases hf
        | succ n ih =>
          intro v13 v14 H locs ls w hl hf
          rw [fX5_walk_L42] at hf
          refine lv_iload C.1 C.2.1 (dk_at dkX5_walk 22 rfl) (lv_at hl 0 rfl) ?_
          refine lv_bipush (v := 10) C.1 C.2.1 (dk_at dkX5_walk 23 rfl) (by decide) ?_
          refine lv_icmp_ge (tgt := 82) C.1 C.2.1 (dk_at dkX5_walk 24 rfl) (by decide) (fun c16 => ?_) (fun c16 => ?_)
          · have hf := (if_pos c16).symm.trans hf
            exact hKe v13 v14 _ _ _ w (lv_sub hl [] rfl) hf
          · have hf := (if_neg c16).symm.trans hf
            refine lv_iload C.1 C.2.1 (dk_at dkX5_walk 25 rfl) (lv_at hl 0 rfl) ?_
            obtain ⟨y17, hq18, hf⟩ := bd1_at hf
            have J19 : ∀ (H : Heap) (locs : List Loc) (ls : Array Slot), Wd g A Z.heap (wV g a_v a_rd a_nw a_tr a_da a_i0 a_i1 a_s0 a_s1 a_s2 a_s3 v ++ wC g a_nw nw ++ wD g a_da da_7) H locs → lv_has ls 7 [(4, .long y17), (6, .int v13), (3, .int r9), (0, .ref (a_v 0))] → W P l E rmX5_walk Z Mi AR BE ME CO H locs 0 0 Q (F0 Mi 64 ls []) := by
              intro H locs ls w hl
              refine lv_lload C.1 C.2.1 (dk_at dkX5_walk 32 rfl) (lv_at hl 0 rfl) ?_
              refine lv_iload_n C.1 C.2.1 (dk_at dkX5_walk 33 rfl) rfl (lv_at hl 2 rfl) ?_
              obtain ⟨r20, hq21, hf⟩ := bd1_at hf
              refine r_st (As := [.long y17, .int r9]) (rest := []) C (kX3_has l y17 r9 r20 hq21) (cwS0 C (inr19 _ (List.mem_of_getElem? (i := 21) rfl)) mwX3_has hdX3_has ⟨Nat.le_of_ble_eq_true rfl, Nat.le_of_ble_eq_true rfl⟩) rfl hl.1 rfl (Nat.le_of_ble_eq_true rfl) ⟨Nat.zero_le _, Nat.zero_le _⟩ (dk_at dkX5_walk 34 rfl) ?_
              refine lv_if_eq (tgt := 76) C.1 C.2.1 (dk_at dkX5_walk 35 rfl) (by decide) (fun c22 => ?_) (fun c22 => ?_)
              · have hf := (if_pos c22).symm.trans hf
                obtain ⟨x23, ex23⟩ : ∃ z : Int32, z = v13 + 1 := ⟨_, rfl⟩
                have hf := nm_at ex23 hf
                refine lv_iinc (v := x23) (lv' := [(6, .int x23), (4, .long y17), (3, .int r9), (0, .ref (a_v 0))]) C.1 C.2.1 (dk_at dkX5_walk 38 rfl) hl (k := 1) rfl (by rw [ex23]; rfl) (by decide) rfl (fun ls hl => ?_)
                refine lv_goto (tgt := 42) C.1 C.2.1 (dk_at dkX5_walk 39 rfl) (by decide) ?_
                exact ih x23 y17 _ _ _ w (lv_sub hl [0, 1, 2, 3] rfl) hf
              · have hf := (if_neg c22).symm.trans hf
                refine lv_iload C.1 C.2.1 (dk_at dkX5_walk 36 rfl) (lv_at hl 1 rfl) ?_
                cases hf
                exact fin _ _ _ _ _ (dk_at dkX5_walk 37 rfl) rfl w
            clear hf
            have hf := hq18
            refine lv_if_le (tgt := 64) C.1 C.2.1 (dk_at dkX5_walk 26 rfl) (by decide) (fun c24 => ?_) (fun c24 => ?_)
            · have hf := (if_pos c24).symm.trans hf
              cases hf
              exact J19 _ _ _ w (lv_sub hl [1, 0, 2, 3] rfl)
            · have hf := (if_neg c24).symm.trans hf
              refine lv_aload_n C.1 C.2.1 (dk_at dkX5_walk 27 rfl) rfl (lv_at hl 3 rfl) ?_
              refine lv_lload C.1 C.2.1 (dk_at dkX5_walk 28 rfl) (lv_at hl 1 rfl) ?_
              refine lv_iload C.1 C.2.1 (dk_at dkX5_walk 29 rfl) (lv_at hl 0 rfl) ?_
              obtain ⟨r25, hq26, hf⟩ := bd1_at hf
              refine r_roVl (As := [.long v14, .int v13]) (rest := []) C (kX5_goOn l g a_v a_rd a_nw a_tr a_da a_i0 a_i1 a_s0 a_s1 a_s2 a_s3 v nw da_7 v14 v13 r25 hq26) (cwV0 C (inr31 _ (List.mem_of_getElem? (i := 12) rfl)) mwX5_goOn hdX5_goOn ⟨Nat.le_of_ble_eq_true rfl, Nat.le_of_ble_eq_true rfl⟩) hK w.1 rfl rfl rfl hl.1 rfl (Nat.le_of_ble_eq_true rfl) ⟨Nat.zero_le _, Nat.zero_le _⟩ (dk_at dkX5_walk 30 rfl) ?_
              refine lv_lstore (lv' := [(4, .long r25), (6, .int v13), (3, .int r9), (0, .ref (a_v 0))]) C.1 C.2.1 (dk_at dkX5_walk 31 rfl) hl (by decide) rfl (fun ls hl => ?_)
              cases hf
              exact J19 _ _ _ w (lv_sub hl [0, 1, 2, 3] rfl)
      refine L15 _ ?_ 4096 0 r11 _ _ _ w (lv_sub hl [0, 1, 2, 3] rfl) hf
      clear hf
      intro v13 v14 H locs ls w hl hf
      refine lv_bipush (v := (-4)) C.1 C.2.1 (dk_at dkX5_walk 40 rfl) (by decide) ?_
      cases hf
      exact fin _ _ _ _ _ (dk_at dkX5_walk 41 rfl) rfl w
    · have hf := (if_pos c6).symm.trans hf
      refine lv_iconst (v := (-1)) C.1 C.2.1 (dk_at dkX5_walk 6 rfl) (by decide) ?_
      cases hf
      exact fin _ _ _ _ _ (dk_at dkX5_walk 7 rfl) rfl w
-- X5.walks
abbrev tbX5_walks : List (Nat × Instr × Nat) := [(0, .iload_n 1, 1), (1, .invokestatic 116, 3), (4, .ifCond .ne 5, 3), (7, .iconst (-1), 1), (8, .ireturn, 1), (9, .aload_n 0, 1), (10, .getfield 29, 3), (13, .aload_n 0, 1), (14, .getfield 19, 3), (17, .invokevirtual 140, 3), (20, .aload_n 0, 1), (21, .iload_n 1, 1), (22, .invokevirtual 175, 3), (25, .lstore_n 2, 1), (26, .iconst 1, 1), (27, .istore 4, 2), (29, .iload 4, 2), (31, .bipush 10, 2), (33, .if_icmp .ge 17, 3), (36, .aload_n 0, 1), (37, .lload_n 2, 1), (38, .iload 4, 2), (40, .invokevirtual 179, 3), (43, .lstore_n 2, 1), (44, .iinc 4 1, 3), (47, .goto (-18), 3), (50, .lload_n 2, 1), (51, .invokestatic 87, 3), (54, .ireturn, 1)]
theorem dkX5_walks : dk cX5_walks tbX5_walks := dk_of (by decide +kernel)
abbrev cdX5_walks : Cond := Cond.code yX5_walks cX5_walks 5 (some .int)
abbrev rmX5_walks : Room := { frames := 4, cells := 0, slots := 0, locals := 93 }
theorem mwX5_walks : Cond.instanceMethod yX5_walks ∈ wsL_law ∧ Cond.selects RX5 yX5_walks yX5_walks ∈ wsL_law ∧ Cond.initialized RX5 ∈ wsL_law ∧ cdX5_walks ∈ wsL_law := ⟨inr32 _ (List.mem_of_getElem? (i := 14) rfl), inr32 _ (List.mem_of_getElem? (i := 15) rfl), inr1 _ (List.mem_of_getElem? (i := 2) rfl), inr32 _ (List.mem_of_getElem? (i := 16) rfl)⟩
theorem hdX5_walks : yX5_walks.cls = RX5 ∧ yX5_walks.cls ≠ "java/lang/invoke/MethodHandle" ∧ yX5_walks.cls ≠ "java/lang/invoke/VarHandle" ∧ (parseMethodDescriptor yX5_walks.desc).map (fun d => d.parameters.length) = some 1 := by decide +kernel
set_option maxHeartbeats 4000000 in
set_option maxRecDepth 100000 in
theorem kX5_walks (l : Launch) (g : Gx) (sz : Nat) (a_v a_rd a_nw a_tr a_da a_i0 a_i1 a_s0 a_s1 a_s2 a_s3 : Nat → Nat) (v : VT) (nw : CT) (da : DT) (p1 : Int32) (res : Int32) (da_o : DT) (hf : fX5_walks p1 v nw da = some (res, da_o)) : Met l yX5_walks (cdX5_walks :: wsL_law) rmX5_walks (va_Pc [.ref (a_v 0), .int p1] (RWp g sz (wV g a_v a_rd a_nw a_tr a_da a_i0 a_i1 a_s0 a_s1 a_s2 a_s3 v ++ wC g a_nw nw ++ wD g a_da da))) (va_Qi (fun x (_ : Unit) => x = res) (fun _ => RWq g (va_A (wV g a_v a_rd a_nw a_tr a_da a_i0 a_i1 a_s0 a_s1 a_s2 a_s3 v ++ wC g a_nw nw ++ wD g a_da da) sz) (wV g a_v a_rd a_nw a_tr a_da a_i0 a_i1 a_s0 a_s1 a_s2 a_s3 v ++ wC g a_nw nw ++ wD g a_da da_o)) (va_A (wV g a_v a_rd a_nw a_tr a_da a_i0 a_i1 a_s0 a_s1 a_s2 a_s3 v ++ wC g a_nw nw ++ wD g a_da da) sz)) 0 0 (va_A (wV g a_v a_rd a_nw a_tr a_da a_i0 a_i1 a_s0 a_s1 a_s2 a_s3 v ++ wC g a_nw nw ++ wD g a_da da) sz) := by
  refine Met_rwi (cc := cX5_walks) (maxL := 5) (by decide) rfl (Nat.le_of_ble_eq_true rfl) ?_
  intro P E Z Mi AR BE ME CO A Q C hK hA fin w ls hl
  have hl : lv_has ls 5 [(0, .ref (a_v 0)), (1, .int p1)] := hl
  unfold fX5_walks at hf
  refine lv_iload_n C.1 C.2.1 (dk_at dkX5_walks 0 rfl) rfl (lv_at hl 1 rfl) ?_
  obtain ⟨r1, hq2, hf⟩ := bd1_at hf
  refine r_st (As := [.int p1]) (rest := []) C (kX3_isCell l p1 r1 hq2) (cwS0 C (inr19 _ (List.mem_of_getElem? (i := 19) rfl)) mwX3_isCell hdX3_isCell ⟨Nat.le_of_ble_eq_true rfl, Nat.le_of_ble_eq_true rfl⟩) rfl hl.1 rfl (Nat.le_of_ble_eq_true rfl) ⟨Nat.zero_le _, Nat.zero_le _⟩ (dk_at dkX5_walks 1 rfl) ?_
  refine lv_if_ne (tgt := 9) C.1 C.2.1 (dk_at dkX5_walks 2 rfl) (by decide) (fun c3 => ?_) (fun c3 => ?_)
  · have hf := (if_neg c3).symm.trans hf
    refine lv_aload_n C.1 C.2.1 (dk_at dkX5_walks 5 rfl) rfl (lv_at hl 0 rfl) ?_
    refine r_get (v := .ref (a_da 0)) C hK w.1 (fun w h => List.mem_cons_of_mem _ (inlX5 w h)) 0 rfl rfl 3 (by decide) (List.mem_cons_of_mem _ (inr2 _ (List.mem_of_getElem? (i := 0) rfl))) rfl (dk_at dkX5_walks 6 rfl) ?_
    refine lv_aload_n C.1 C.2.1 (dk_at dkX5_walks 7 rfl) rfl (lv_at hl 0 rfl) ?_
    refine r_get (v := .ref (a_nw 0)) C hK w.1 (fun w h => List.mem_cons_of_mem _ (inlX5 w h)) 0 rfl rfl 1 (by decide) (List.mem_cons_of_mem _ (inr1 _ (List.mem_of_getElem? (i := 19) rfl))) rfl (dk_at dkX5_walks 8 rfl) ?_
    obtain ⟨da_4, hq5, hf⟩ := bd1_at hf
    refine r_rwv (As := [.ref (a_nw 0)]) (rest := []) (wr := wV g a_v a_rd a_nw a_tr a_da a_i0 a_i1 a_s0 a_s1 a_s2 a_s3 v) (ws' := wV g a_v a_rd a_nw a_tr a_da a_i0 a_i1 a_s0 a_s1 a_s2 a_s3 v ++ wC g a_nw nw ++ wD g a_da da_4) C (kX1_pass l g _ a_da a_nw da nw da_4 hq5) (cwV0 C (inr23 _ (List.mem_of_getElem? (i := 7) rfl)) mwX1_pass hdX1_pass ⟨Nat.le_of_ble_eq_true rfl, Nat.le_of_ble_eq_true rfl⟩) hK w hA [16, 17, 18, 19, 20, 21, 5, 6, 7, 8, 9, 10, 11, 12, 13, 14, 15] [0, 1, 2, 3, 4] [0, 1, 2, 3, 4, 11, 12, 13, 14, 15, 16, 17, 18, 19, 20, 21, 5, 6, 7, 8, 9, 10] (by decide) rfl rfl (by decide) (by decide) rfl (by decide) rfl rfl rfl hl.1 rfl (Nat.le_of_ble_eq_true rfl) ⟨Nat.zero_le _, Nat.zero_le _⟩ (dk_at dkX5_walks 9 rfl) (fun H locs w => ?_)
    refine lv_aload_n C.1 C.2.1 (dk_at dkX5_walks 10 rfl) rfl (lv_at hl 0 rfl) ?_
    refine lv_iload_n C.1 C.2.1 (dk_at dkX5_walks 11 rfl) rfl (lv_at hl 1 rfl) ?_
    obtain ⟨r6, hq7, hf⟩ := bd1_at hf
    refine r_roVl (As := [.int p1]) (rest := []) C (kX5_beginWalks l g a_v a_rd a_nw a_tr a_da a_i0 a_i1 a_s0 a_s1 a_s2 a_s3 v nw da_4 p1 r6 hq7) (cwV0 C (inr31 _ (List.mem_of_getElem? (i := 0) rfl)) mwX5_beginWalks hdX5_beginWalks ⟨Nat.le_of_ble_eq_true rfl, Nat.le_of_ble_eq_true rfl⟩) hK w.1 rfl rfl rfl hl.1 rfl (Nat.le_of_ble_eq_true rfl) ⟨Nat.zero_le _, Nat.zero_le _⟩ (dk_at dkX5_walks 12 rfl) ?_
    refine lv_lstore_n (lv' := [(2, .long r6), (0, .ref (a_v 0)), (1, .int p1)]) C.1 C.2.1 (dk_at dkX5_walks 13 rfl) rfl hl (by decide) rfl (fun ls hl => ?_)
    refine lv_iconst (v := 1) C.1 C.2.1 (dk_at dkX5_walks 14 rfl) (by decide) ?_
    refine lv_istore (lv' := [(4, .int 1), (2, .long r6), (0, .ref (a_v 0)), (1, .int p1)]) C.1 C.2.1 (dk_at dkX5_walks 15 rfl) hl (by decide) rfl (fun ls hl => ?_)
    have L10 : ∀ (K : Int32 → Int64 → Option (Int32 × DT)), (∀ (v8 : Int32) (v9 : Int64) (H : Heap) (locs : List Loc) (ls : Array Slot), Wd g A Z.heap (wV g a_v a_rd a_nw a_tr a_da a_i0 a_i1 a_s0 a_s1 a_s2 a_s3 v ++ wC g a_nw nw ++ wD g a_da da_4) H locs → lv_has ls 5 [(2, .long v9)] → K v8 v9 = some (res, da_o) → W P l E rmX5_walks Z Mi AR BE ME CO H locs 0 0 Q (F0 Mi 50 ls [])) → ∀ (n : Nat), ∀ (v8 : Int32) (v9 : Int64) (H : Heap) (locs : List Loc) (ls : Array Slot), Wd g A Z.heap (wV g a_v a_rd a_nw a_tr a_da a_i0 a_i1 a_s0 a_s1 a_s2 a_s3 v ++ wC g a_nw nw ++ wD g a_da da_4) H locs → lv_has ls 5 [(4, .int v8), (2, .long v9), (0, .ref (a_v 0))] → fX5_walks_L29 v nw da_4 K n v8 v9 = some (res, da_o) → W P l E rmX5_walks Z Mi AR BE ME CO H locs 0 0 Q (F0 Mi 29 ls []) := by
      intro K hKe n
      induction n with
      | zero => intro v8 v9 H locs ls w hl hf; cases hf
      | succ n ih =>
        intro v8 v9 H locs ls w hl hf
        rw [fX5_walks_L29] at hf
        refine lv_iload C.1 C.2.1 (dk_at dkX5_walks 16 rfl) (lv_at hl 0 rfl) ?_
        refine lv_bipush (v := 10) C.1 C.2.1 (dk_at dkX5_walks 17 rfl) (by decide) ?_
        refine lv_icmp_ge (tgt := 50) C.1 C.2.1 (dk_at dkX5_walks 18 rfl) (by decide) (fun c11 => ?_) (fun c11 => ?_)
        · have hf := (if_pos c11).symm.trans hf
          exact hKe v8 v9 _ _ _ w (lv_sub hl [1] rfl) hf
        · have hf := (if_neg c11).symm.trans hf
          refine lv_aload_n C.1 C.2.1 (dk_at dkX5_walks 19 rfl) rfl (lv_at hl 2 rfl) ?_
          refine lv_lload_n C.1 C.2.1 (dk_at dkX5_walks 20 rfl) rfl (lv_at hl 1 rfl) ?_
          refine lv_iload C.1 C.2.1 (dk_at dkX5_walks 21 rfl) (lv_at hl 0 rfl) ?_
          obtain ⟨r12, hq13, hf⟩ := bd1_at hf
          refine r_roVl (As := [.long v9, .int v8]) (rest := []) C (kX5_goOn l g a_v a_rd a_nw a_tr a_da a_i0 a_i1 a_s0 a_s1 a_s2 a_s3 v nw da_4 v9 v8 r12 hq13) (cwV0 C (inr31 _ (List.mem_of_getElem? (i := 12) rfl)) mwX5_goOn hdX5_goOn ⟨Nat.le_of_ble_eq_true rfl, Nat.le_of_ble_eq_true rfl⟩) hK w.1 rfl rfl rfl hl.1 rfl (Nat.le_of_ble_eq_true rfl) ⟨Nat.zero_le _, Nat.zero_le _⟩ (dk_at dkX5_walks 22 rfl) ?_
          refine lv_lstore_n (lv' := [(2, .long r12), (4, .int v8), (0, .ref (a_v 0))]) C.1 C.2.1 (dk_at dkX5_walks 23 rfl) rfl hl (by decide) rfl (fun ls hl => ?_)
          obtain ⟨x14, ex14⟩ : ∃ z : Int32, z = v8 + 1 := ⟨_, rfl⟩
          have hf := nm_at ex14 hf
          refine lv_iinc (v := x14) (lv' := [(4, .int x14), (2, .long r12), (0, .ref (a_v 0))]) C.1 C.2.1 (dk_at dkX5_walks 24 rfl) hl (k := 1) rfl (by rw [ex14]; rfl) (by decide) rfl (fun ls hl => ?_)
          refine lv_goto (tgt := 29) C.1 C.2.1 (dk_at dkX5_walks 25 rfl) (by decide) ?_
          exact ih x14 r12 _ _ _ w (lv_sub hl [0, 1, 2] rfl) hf
    refine L10 _ ?_ 4096 1 r6 _ _ _ w (lv_sub hl [0, 1, 2] rfl) hf
    clear hf
    intro v8 v9 H locs ls w hl hf
    refine lv_lload_n C.1 C.2.1 (dk_at dkX5_walks 26 rfl) rfl (lv_at hl 0 rfl) ?_
    obtain ⟨r15, hq16, hf⟩ := bd1_at hf
    refine r_st (As := [.long v9]) (rest := []) C (kJ13_bitCount_95d88 l v9 r15 hq16) (cwS0 C (inr16 _ (List.mem_of_getElem? (i := 18) rfl)) mwJ13_bitCount_95d88 hdJ13_bitCount_95d88 ⟨Nat.le_of_ble_eq_true rfl, Nat.le_of_ble_eq_true rfl⟩) rfl hl.1 rfl (Nat.le_of_ble_eq_true rfl) ⟨Nat.zero_le _, Nat.zero_le _⟩ (dk_at dkX5_walks 27 rfl) ?_
    cases hf
    exact fin _ _ _ _ _ (dk_at dkX5_walks 28 rfl) rfl w
  · have hf := (if_pos c3).symm.trans hf
    refine lv_iconst (v := (-1)) C.1 C.2.1 (dk_at dkX5_walks 3 rfl) (by decide) ?_
    cases hf
    exact fin _ _ _ _ _ (dk_at dkX5_walks 4 rfl) rfl w
-- X5.when
abbrev tbX5_when : List (Nat × Instr × Nat) := [(0, .aload_n 0, 1), (1, .getfield 19, 3), (4, .iload_n 1, 1), (5, .invokevirtual 96, 3), (8, .ifCond .eq 12, 3), (11, .iload_n 2, 1), (12, .ifCond .lt 8, 3), (15, .iload_n 2, 1), (16, .iconst 1, 1), (17, .if_icmp .le 5, 3), (20, .iconst (-1), 1), (21, .ireturn, 1), (22, .iconst 0, 1), (23, .istore_n 3, 1), (24, .iconst (-1), 1), (25, .istore 4, 2), (27, .aload_n 0, 1), (28, .getfield 23, 3), (31, .aload_n 0, 1), (32, .getfield 19, 3), (35, .invokevirtual 73, 3), (38, .iconst 0, 1), (39, .istore 5, 2), (41, .iload 5, 2), (43, .bipush 10, 2), (45, .if_icmp .ge 65, 3), (48, .aload_n 0, 1), (49, .getfield 23, 3), (52, .getfield 100, 3), (55, .iload_n 1, 1), (56, .aaload, 1), (57, .iconst 4, 1), (58, .iload 5, 2), (60, .iastore, 1), (61, .aload_n 0, 1), (62, .getfield 29, 3), (65, .aload_n 0, 1), (66, .getfield 23, 3), (69, .invokevirtual 140, 3), (72, .aload_n 0, 1), (73, .getfield 23, 3), (76, .aload_n 0, 1), (77, .getfield 29, 3), (80, .getfield 143, 3), (83, .iload_n 1, 1), (84, .iaload, 1), (85, .invokevirtual 193, 3), (88, .istore 6, 2), (90, .iload 6, 2), (92, .iload 4, 2), (94, .if_icmp .le 10, 3), (97, .iload 5, 2), (99, .istore_n 3, 1), (100, .iload 6, 2), (102, .istore 4, 2), (104, .iinc 5 1, 3), (107, .goto (-66), 3), (110, .iload_n 2, 1), (111, .ifCond .ne 7, 3), (114, .iload_n 3, 1), (115, .goto 5, 3), (118, .iload 4, 2), (120, .ireturn, 1)]
theorem dkX5_when : dk cX5_when tbX5_when := dk_of (by decide +kernel)
abbrev cdX5_when : Cond := Cond.code yX5_when cX5_when 7 (some .int)
abbrev rmX5_when : Room := { frames := 4, cells := 0, slots := 0, locals := 93 }
theorem mwX5_when : Cond.instanceMethod yX5_when ∈ wsL_law ∧ Cond.selects RX5 yX5_when yX5_when ∈ wsL_law ∧ Cond.initialized RX5 ∈ wsL_law ∧ cdX5_when ∈ wsL_law := ⟨inr32 _ (List.mem_of_getElem? (i := 22) rfl), inr32 _ (List.mem_of_getElem? (i := 23) rfl), inr1 _ (List.mem_of_getElem? (i := 2) rfl), inr33 _ (List.mem_of_getElem? (i := 0) rfl)⟩
theorem hdX5_when : yX5_when.cls = RX5 ∧ yX5_when.cls ≠ "java/lang/invoke/MethodHandle" ∧ yX5_when.cls ≠ "java/lang/invoke/VarHandle" ∧ (parseMethodDescriptor yX5_when.desc).map (fun d => d.parameters.length) = some 2 := by decide +kernel
set_option maxHeartbeats 4000000 in
set_option maxRecDepth 100000 in
theorem kX5_when (l : Launch) (g : Gx) (sz : Nat) (a_v a_rd a_nw a_tr a_da a_i0 a_i1 a_s0 a_s1 a_s2 a_s3 : Nat → Nat) (v : VT) (nw : CT) (tr : CT) (da : DT) (p1 : Int32) (p2 : Int32) (res : Int32) (tr_o : CT) (da_o : DT) (hf : fX5_when p1 p2 v nw tr da = some (res, tr_o, da_o)) : Met l yX5_when (cdX5_when :: wsL_law) rmX5_when (va_Pc [.ref (a_v 0), .int p1, .int p2] (RWp g sz (wV g a_v a_rd a_nw a_tr a_da a_i0 a_i1 a_s0 a_s1 a_s2 a_s3 v ++ wC g a_nw nw ++ wC g a_tr tr ++ wD g a_da da))) (va_Qi (fun x (_ : Unit) => x = res) (fun _ => RWq g (va_A (wV g a_v a_rd a_nw a_tr a_da a_i0 a_i1 a_s0 a_s1 a_s2 a_s3 v ++ wC g a_nw nw ++ wC g a_tr tr ++ wD g a_da da) sz) (wV g a_v a_rd a_nw a_tr a_da a_i0 a_i1 a_s0 a_s1 a_s2 a_s3 v ++ wC g a_nw nw ++ wC g a_tr tr_o ++ wD g a_da da_o)) (va_A (wV g a_v a_rd a_nw a_tr a_da a_i0 a_i1 a_s0 a_s1 a_s2 a_s3 v ++ wC g a_nw nw ++ wC g a_tr tr ++ wD g a_da da) sz)) 0 0 (va_A (wV g a_v a_rd a_nw a_tr a_da a_i0 a_i1 a_s0 a_s1 a_s2 a_s3 v ++ wC g a_nw nw ++ wC g a_tr tr ++ wD g a_da da) sz) := by
  refine Met_rwi (cc := cX5_when) (maxL := 7) (by decide) rfl (Nat.le_of_ble_eq_true rfl) ?_
  intro P E Z Mi AR BE ME CO A Q C hK hA fin w ls hl
  have hl : lv_has ls 7 [(0, .ref (a_v 0)), (1, .int p1), (2, .int p2)] := hl
  unfold fX5_when at hf
  refine lv_aload_n C.1 C.2.1 (dk_at dkX5_when 0 rfl) rfl (lv_at hl 0 rfl) ?_
  refine r_get (v := .ref (a_nw 0)) C hK w.1 (fun w h => List.mem_cons_of_mem _ (inlX5 w h)) 0 rfl rfl 1 (by decide) (List.mem_cons_of_mem _ (inr1 _ (List.mem_of_getElem? (i := 19) rfl))) rfl (dk_at dkX5_when 1 rfl) ?_
  refine lv_iload_n C.1 C.2.1 (dk_at dkX5_when 2 rfl) rfl (lv_at hl 1 rfl) ?_
  obtain ⟨r1, hq2, hf⟩ := bd1_at hf
  refine r_roV (As := [.int p1]) (rest := []) C (kX0_isSaying l g a_nw nw p1 r1 hq2) (cwV0 C (inr17 _ (List.mem_of_getElem? (i := 22) rfl)) mwX0_isSaying hdX0_isSaying ⟨Nat.le_of_ble_eq_true rfl, Nat.le_of_ble_eq_true rfl⟩) hK (w.1.sub [5, 6, 7, 8, 9, 10, 11, 12, 13, 14, 15] rfl) rfl rfl rfl hl.1 rfl (Nat.le_of_ble_eq_true rfl) ⟨Nat.zero_le _, Nat.zero_le _⟩ (dk_at dkX5_when 3 rfl) ?_
  refine lv_if_eq (tgt := 20) C.1 C.2.1 (dk_at dkX5_when 4 rfl) (by decide) (fun c3 => ?_) (fun c3 => ?_)
  · have hf := (if_pos c3).symm.trans hf
    refine lv_iconst (v := (-1)) C.1 C.2.1 (dk_at dkX5_when 10 rfl) (by decide) ?_
    cases hf
    exact fin _ _ _ _ _ (dk_at dkX5_when 11 rfl) rfl w
  · have hf := (if_neg c3).symm.trans hf
    refine lv_iload_n C.1 C.2.1 (dk_at dkX5_when 5 rfl) rfl (lv_at hl 2 rfl) ?_
    refine lv_if_lt (tgt := 20) C.1 C.2.1 (dk_at dkX5_when 6 rfl) (by decide) (fun c4 => ?_) (fun c4 => ?_)
    · have hf := (if_pos c4).symm.trans hf
      refine lv_iconst (v := (-1)) C.1 C.2.1 (dk_at dkX5_when 10 rfl) (by decide) ?_
      cases hf
      exact fin _ _ _ _ _ (dk_at dkX5_when 11 rfl) rfl w
    · have hf := (if_neg c4).symm.trans hf
      refine lv_iload_n C.1 C.2.1 (dk_at dkX5_when 7 rfl) rfl (lv_at hl 2 rfl) ?_
      refine lv_iconst (v := 1) C.1 C.2.1 (dk_at dkX5_when 8 rfl) (by decide) ?_
      refine lv_icmp_le (tgt := 22) C.1 C.2.1 (dk_at dkX5_when 9 rfl) (by decide) (fun c5 => ?_) (fun c5 => ?_)
      · have hf := (if_pos c5).symm.trans hf
        refine lv_iconst (v := 0) C.1 C.2.1 (dk_at dkX5_when 12 rfl) (by decide) ?_
        refine lv_istore_n (lv' := [(3, .int 0), (0, .ref (a_v 0)), (1, .int p1), (2, .int p2)]) C.1 C.2.1 (dk_at dkX5_when 13 rfl) rfl hl (by decide) rfl (fun ls hl => ?_)
        refine lv_iconst (v := (-1)) C.1 C.2.1 (dk_at dkX5_when 14 rfl) (by decide) ?_
        refine lv_istore (lv' := [(4, .int (-1)), (3, .int 0), (0, .ref (a_v 0)), (1, .int p1), (2, .int p2)]) C.1 C.2.1 (dk_at dkX5_when 15 rfl) hl (by decide) rfl (fun ls hl => ?_)
        refine lv_aload_n C.1 C.2.1 (dk_at dkX5_when 16 rfl) rfl (lv_at hl 2 rfl) ?_
        refine r_get (v := .ref (a_tr 0)) C hK w.1 (fun w h => List.mem_cons_of_mem _ (inlX5 w h)) 0 rfl rfl 2 (by decide) (List.mem_cons_of_mem _ (inr1 _ (List.mem_of_getElem? (i := 20) rfl))) rfl (dk_at dkX5_when 17 rfl) ?_
        refine lv_aload_n C.1 C.2.1 (dk_at dkX5_when 18 rfl) rfl (lv_at hl 2 rfl) ?_
        refine r_get (v := .ref (a_nw 0)) C hK w.1 (fun w h => List.mem_cons_of_mem _ (inlX5 w h)) 0 rfl rfl 1 (by decide) (List.mem_cons_of_mem _ (inr1 _ (List.mem_of_getElem? (i := 19) rfl))) rfl (dk_at dkX5_when 19 rfl) ?_
        obtain ⟨tr_6, hq7, hf⟩ := bd1_at hf
        refine r_rwv (As := [.ref (a_nw 0)]) (rest := []) (wr := wV g a_v a_rd a_nw a_tr a_da a_i0 a_i1 a_s0 a_s1 a_s2 a_s3 v ++ wD g a_da da) (ws' := wV g a_v a_rd a_nw a_tr a_da a_i0 a_i1 a_s0 a_s1 a_s2 a_s3 v ++ wC g a_nw nw ++ wC g a_tr tr_6 ++ wD g a_da da) C (kX0_copyTo l g _ a_tr a_nw tr nw tr_6 hq7) (cwV0 C (inr12 _ (List.mem_of_getElem? (i := 6) rfl)) mwX0_copyFrom hdX0_copyFrom ⟨Nat.le_of_ble_eq_true rfl, Nat.le_of_ble_eq_true rfl⟩) hK w hA [16, 17, 18, 19, 20, 21, 22, 23, 24, 25, 26, 5, 6, 7, 8, 9, 10, 11, 12, 13, 14, 15] [0, 1, 2, 3, 4, 27, 28, 29, 30, 31, 32] [0, 1, 2, 3, 4, 22, 23, 24, 25, 26, 27, 28, 29, 30, 31, 32, 11, 12, 13, 14, 15, 16, 17, 18, 19, 20, 21, 5, 6, 7, 8, 9, 10] (by decide) rfl rfl (by decide) (by decide) rfl (by decide) rfl rfl rfl hl.1 rfl (Nat.le_of_ble_eq_true rfl) ⟨Nat.zero_le _, Nat.zero_le _⟩ (dk_at dkX5_when 20 rfl) (fun H locs w => ?_)
        refine lv_iconst (v := 0) C.1 C.2.1 (dk_at dkX5_when 21 rfl) (by decide) ?_
        refine lv_istore (lv' := [(5, .int 0), (4, .int (-1)), (3, .int 0), (0, .ref (a_v 0)), (1, .int p1), (2, .int p2)]) C.1 C.2.1 (dk_at dkX5_when 22 rfl) hl (by decide) rfl (fun ls hl => ?_)
        have L13 : ∀ (K : Int32 → Int32 → Int32 → CT → DT → Option (Int32 × CT × DT)), (∀ (v8 : Int32) (v9 : Int32) (v10 : Int32) (tr_11 : CT) (da_12 : DT) (H : Heap) (locs : List Loc) (ls : Array Slot), Wd g A Z.heap (wV g a_v a_rd a_nw a_tr a_da a_i0 a_i1 a_s0 a_s1 a_s2 a_s3 v ++ wC g a_nw nw ++ wC g a_tr tr_11 ++ wD g a_da da_12) H locs → lv_has ls 7 [(4, .int v9), (3, .int v10), (2, .int p2)] → K v8 v9 v10 tr_11 da_12 = some (res, tr_o, da_o) → W P l E rmX5_when Z Mi AR BE ME CO H locs 0 0 Q (F0 Mi 110 ls [])) → ∀ (n : Nat), ∀ (v8 : Int32) (v9 : Int32) (v10 : Int32) (tr_11 : CT) (da_12 : DT) (H : Heap) (locs : List Loc) (ls : Array Slot), Wd g A Z.heap (wV g a_v a_rd a_nw a_tr a_da a_i0 a_i1 a_s0 a_s1 a_s2 a_s3 v ++ wC g a_nw nw ++ wC g a_tr tr_11 ++ wD g a_da da_12) H locs → lv_has ls 7 [(5, .int v8), (4, .int v9), (3, .int v10), (0, .ref (a_v 0)), (1, .int p1), (2, .int p2)] → fX5_when_L41 p1 K n v8 v9 v10 tr_11 da_12 = some (res, tr_o, da_o) → W P l E rmX5_when Z Mi AR BE ME CO H locs 0 0 Q (F0 Mi 41 ls []) := by
          intro K hKe n
          induction n with
          | zero => intro v8 v9 v10 tr_11 da_12 H locs ls w hl hf; cases hf
          | succ n ih =>
            intro v8 v9 v10 tr_11 da_12 H locs ls w hl hf
            rw [fX5_when_L41] at hf
            refine lv_iload C.1 C.2.1 (dk_at dkX5_when 23 rfl) (lv_at hl 0 rfl) ?_
            refine lv_bipush (v := 10) C.1 C.2.1 (dk_at dkX5_when 24 rfl) (by decide) ?_
            refine lv_icmp_ge (tgt := 110) C.1 C.2.1 (dk_at dkX5_when 25 rfl) (by decide) (fun c14 => ?_) (fun c14 => ?_)
            · have hf := (if_pos c14).symm.trans hf
              exact hKe v8 v9 v10 tr_11 da_12 _ _ _ w (lv_sub hl [1, 2, 5] rfl) hf
            · have hf := (if_neg c14).symm.trans hf
              refine lv_aload_n C.1 C.2.1 (dk_at dkX5_when 26 rfl) rfl (lv_at hl 3 rfl) ?_
              refine r_get (v := .ref (a_tr 0)) C hK w.1 (fun w h => List.mem_cons_of_mem _ (inlX5 w h)) 0 rfl rfl 2 (by decide) (List.mem_cons_of_mem _ (inr1 _ (List.mem_of_getElem? (i := 20) rfl))) rfl (dk_at dkX5_when 27 rfl) ?_
              refine r_get (v := .ref (a_tr 2)) C hK w.1 (fun w h => List.mem_cons_of_mem _ (inlX0 w h)) 16 rfl rfl 2 (by decide) (List.mem_cons_of_mem _ (inr17 _ (List.mem_of_getElem? (i := 21) rfl))) rfl (dk_at dkX5_when 28 rfl) ?_
              refine lv_iload_n C.1 C.2.1 (dk_at dkX5_when 29 rfl) rfl (lv_at hl 4 rfl) ?_
              obtain ⟨h15, hf⟩ := gd_at hf
              refine r_aldr (b := a_tr (3 + p1.toNatClampNeg)) C hK w.1 18 rfl h15 rfl (dk_at dkX5_when 30 rfl) ?_
              have h16 := in_lt h15
              refine lv_iconst (v := 4) C.1 C.2.1 (dk_at dkX5_when 31 rfl) (by decide) ?_
              refine lv_iload C.1 C.2.1 (dk_at dkX5_when 32 rfl) (lv_at hl 0 rfl) ?_
              refine r_iast (k := 4) (a := a_tr (3 + p1.toNatClampNeg)) (n := 5) (f := cTo tr_11 p1.toNatClampNeg) C hK w (16 + (3 + p1.toNatClampNeg)) (by rcases lt5 h16 with h5 | h5 | h5 | h5 | h5 <;> rw [h5] <;> rfl) (in_c (by decide)) (by decide) (dk_at dkX5_when 33 rfl) (fun H locs w => ?_)
              obtain ⟨tr_17, etr_17⟩ : ∃ z : CT, z = cTo' tr_11 (va_up (cTo tr_11) p1.toNatClampNeg (upd (cTo tr_11 p1.toNatClampNeg) 4 v8)) := ⟨_, rfl⟩
              have hf := nm_at etr_17 hf
              have w : Wd g A Z.heap (wV g a_v a_rd a_nw a_tr a_da a_i0 a_i1 a_s0 a_s1 a_s2 a_s3 v ++ wC g a_nw nw ++ wC g a_tr tr_17 ++ wD g a_da da_12) H locs := by rw [etr_17]; rcases lt5 h16 with h5 | h5 | h5 | h5 | h5 <;> (rw [h5] at w; rw [h5]; exact w)
              refine lv_aload_n C.1 C.2.1 (dk_at dkX5_when 34 rfl) rfl (lv_at hl 3 rfl) ?_
              refine r_get (v := .ref (a_da 0)) C hK w.1 (fun w h => List.mem_cons_of_mem _ (inlX5 w h)) 0 rfl rfl 3 (by decide) (List.mem_cons_of_mem _ (inr2 _ (List.mem_of_getElem? (i := 0) rfl))) rfl (dk_at dkX5_when 35 rfl) ?_
              refine lv_aload_n C.1 C.2.1 (dk_at dkX5_when 36 rfl) rfl (lv_at hl 3 rfl) ?_
              refine r_get (v := .ref (a_tr 0)) C hK w.1 (fun w h => List.mem_cons_of_mem _ (inlX5 w h)) 0 rfl rfl 2 (by decide) (List.mem_cons_of_mem _ (inr1 _ (List.mem_of_getElem? (i := 20) rfl))) rfl (dk_at dkX5_when 37 rfl) ?_
              obtain ⟨da_18, hq19, hf⟩ := bd1_at hf
              refine r_rwv (As := [.ref (a_tr 0)]) (rest := []) (wr := wV g a_v a_rd a_nw a_tr a_da a_i0 a_i1 a_s0 a_s1 a_s2 a_s3 v ++ wC g a_nw nw) (ws' := wV g a_v a_rd a_nw a_tr a_da a_i0 a_i1 a_s0 a_s1 a_s2 a_s3 v ++ wC g a_nw nw ++ wC g a_tr tr_17 ++ wD g a_da da_18) C (kX1_pass l g _ a_da a_tr da_12 tr_17 da_18 hq19) (cwV0 C (inr23 _ (List.mem_of_getElem? (i := 7) rfl)) mwX1_pass hdX1_pass ⟨Nat.le_of_ble_eq_true rfl, Nat.le_of_ble_eq_true rfl⟩) hK w hA [27, 28, 29, 30, 31, 32, 16, 17, 18, 19, 20, 21, 22, 23, 24, 25, 26] [0, 1, 2, 3, 4, 5, 6, 7, 8, 9, 10, 11, 12, 13, 14, 15] [0, 1, 2, 3, 4, 5, 6, 7, 8, 9, 10, 11, 12, 13, 14, 15, 22, 23, 24, 25, 26, 27, 28, 29, 30, 31, 32, 16, 17, 18, 19, 20, 21] (by decide) rfl rfl (by decide) (by decide) rfl (by decide) rfl rfl rfl hl.1 rfl (Nat.le_of_ble_eq_true rfl) ⟨Nat.zero_le _, Nat.zero_le _⟩ (dk_at dkX5_when 38 rfl) (fun H locs w => ?_)
              refine lv_aload_n C.1 C.2.1 (dk_at dkX5_when 39 rfl) rfl (lv_at hl 3 rfl) ?_
              refine r_get (v := .ref (a_tr 0)) C hK w.1 (fun w h => List.mem_cons_of_mem _ (inlX5 w h)) 0 rfl rfl 2 (by decide) (List.mem_cons_of_mem _ (inr1 _ (List.mem_of_getElem? (i := 20) rfl))) rfl (dk_at dkX5_when 40 rfl) ?_
              refine lv_aload_n C.1 C.2.1 (dk_at dkX5_when 41 rfl) rfl (lv_at hl 3 rfl) ?_
              refine r_get (v := .ref (a_da 0)) C hK w.1 (fun w h => List.mem_cons_of_mem _ (inlX5 w h)) 0 rfl rfl 3 (by decide) (List.mem_cons_of_mem _ (inr2 _ (List.mem_of_getElem? (i := 0) rfl))) rfl (dk_at dkX5_when 42 rfl) ?_
              refine r_get (v := .ref (a_da 1)) C hK w.1 (fun w h => List.mem_cons_of_mem _ (inlX1 w h)) 27 rfl rfl 0 (by decide) (List.mem_cons_of_mem _ (inr23 _ (List.mem_of_getElem? (i := 4) rfl))) rfl (dk_at dkX5_when 43 rfl) ?_
              refine lv_iload_n C.1 C.2.1 (dk_at dkX5_when 44 rfl) rfl (lv_at hl 4 rfl) ?_
              obtain ⟨h20, hf⟩ := gd_at hf
              refine r_iald (k := p1.toNatClampNeg) (f := (dPl da_18)) C hK w.1 28 rfl h20 rfl (dk_at dkX5_when 45 rfl) ?_
              refine lv_topi (fun x21 ex21 => ?_)
              have hf := nm_at ex21 hf
              obtain ⟨r22, hq23, hf⟩ := bd1_at hf
              refine r_roV (As := [.int x21]) (rest := []) C (kX0_hearersIn l g a_tr tr_17 x21 r22 hq23) (cwV0 C (inr33 _ (List.mem_of_getElem? (i := 1) rfl)) mwX0_hearersIn hdX0_hearersIn ⟨Nat.le_of_ble_eq_true rfl, Nat.le_of_ble_eq_true rfl⟩) hK (w.1.sub [16, 17, 18, 19, 20, 21, 22, 23, 24, 25, 26] rfl) rfl rfl rfl hl.1 rfl (Nat.le_of_ble_eq_true rfl) ⟨Nat.zero_le _, Nat.zero_le _⟩ (dk_at dkX5_when 46 rfl) ?_
              refine lv_istore (lv' := [(6, .int r22), (5, .int v8), (4, .int v9), (3, .int v10), (0, .ref (a_v 0)), (1, .int p1), (2, .int p2)]) C.1 C.2.1 (dk_at dkX5_when 47 rfl) hl (by decide) rfl (fun ls hl => ?_)
              refine lv_iload C.1 C.2.1 (dk_at dkX5_when 48 rfl) (lv_at hl 0 rfl) ?_
              refine lv_iload C.1 C.2.1 (dk_at dkX5_when 49 rfl) (lv_at hl 2 rfl) ?_
              refine lv_icmp_le (tgt := 104) C.1 C.2.1 (dk_at dkX5_when 50 rfl) (by decide) (fun c24 => ?_) (fun c24 => ?_)
              · have hf := (if_pos c24).symm.trans hf
                obtain ⟨x25, ex25⟩ : ∃ z : Int32, z = v8 + 1 := ⟨_, rfl⟩
                have hf := nm_at ex25 hf
                refine lv_iinc (v := x25) (lv' := [(5, .int x25), (6, .int r22), (4, .int v9), (3, .int v10), (0, .ref (a_v 0)), (1, .int p1), (2, .int p2)]) C.1 C.2.1 (dk_at dkX5_when 55 rfl) hl (k := 1) rfl (by rw [ex25]; rfl) (by decide) rfl (fun ls hl => ?_)
                refine lv_goto (tgt := 41) C.1 C.2.1 (dk_at dkX5_when 56 rfl) (by decide) ?_
                exact ih x25 v9 v10 tr_17 da_18 _ _ _ w (lv_sub hl [0, 2, 3, 4, 5, 6] rfl) hf
              · have hf := (if_neg c24).symm.trans hf
                refine lv_iload C.1 C.2.1 (dk_at dkX5_when 51 rfl) (lv_at hl 1 rfl) ?_
                refine lv_istore_n (lv' := [(3, .int v8), (6, .int r22), (5, .int v8), (4, .int v9), (0, .ref (a_v 0)), (1, .int p1), (2, .int p2)]) C.1 C.2.1 (dk_at dkX5_when 52 rfl) rfl hl (by decide) rfl (fun ls hl => ?_)
                refine lv_iload C.1 C.2.1 (dk_at dkX5_when 53 rfl) (lv_at hl 1 rfl) ?_
                refine lv_istore (lv' := [(4, .int r22), (3, .int v8), (6, .int r22), (5, .int v8), (0, .ref (a_v 0)), (1, .int p1), (2, .int p2)]) C.1 C.2.1 (dk_at dkX5_when 54 rfl) hl (by decide) rfl (fun ls hl => ?_)
                obtain ⟨x26, ex26⟩ : ∃ z : Int32, z = v8 + 1 := ⟨_, rfl⟩
                have hf := nm_at ex26 hf
                refine lv_iinc (v := x26) (lv' := [(5, .int x26), (4, .int r22), (3, .int v8), (6, .int r22), (0, .ref (a_v 0)), (1, .int p1), (2, .int p2)]) C.1 C.2.1 (dk_at dkX5_when 55 rfl) hl (k := 3) rfl (by rw [ex26]; rfl) (by decide) rfl (fun ls hl => ?_)
                refine lv_goto (tgt := 41) C.1 C.2.1 (dk_at dkX5_when 56 rfl) (by decide) ?_
                exact ih x26 r22 v8 tr_17 da_18 _ _ _ w (lv_sub hl [0, 1, 2, 4, 5, 6] rfl) hf
        refine L13 _ ?_ 4096 0 (-1) 0 tr_6 da _ _ _ w (lv_sub hl [0, 1, 2, 3, 4, 5] rfl) hf
        clear hf
        intro v8 v9 v10 tr_11 da_12 H locs ls w hl hf
        refine lv_iload_n C.1 C.2.1 (dk_at dkX5_when 57 rfl) rfl (lv_at hl 2 rfl) ?_
        refine lv_if_ne (tgt := 118) C.1 C.2.1 (dk_at dkX5_when 58 rfl) (by decide) (fun c27 => ?_) (fun c27 => ?_)
        · have hf := (if_neg c27).symm.trans hf
          refine lv_iload C.1 C.2.1 (dk_at dkX5_when 61 rfl) (lv_at hl 0 rfl) ?_
          cases hf
          exact fin _ _ _ _ _ (dk_at dkX5_when 62 rfl) rfl w
        · have hf := (if_pos c27).symm.trans hf
          refine lv_iload_n C.1 C.2.1 (dk_at dkX5_when 59 rfl) rfl (lv_at hl 1 rfl) ?_
          refine lv_goto (tgt := 120) C.1 C.2.1 (dk_at dkX5_when 60 rfl) (by decide) ?_
          cases hf
          exact fin _ _ _ _ _ (dk_at dkX5_when 62 rfl) rfl w
      · have hf := (if_neg c5).symm.trans hf
        refine lv_iconst (v := (-1)) C.1 C.2.1 (dk_at dkX5_when 10 rfl) (by decide) ?_
        cases hf
        exact fin _ _ _ _ _ (dk_at dkX5_when 11 rfl) rfl w
-- X5.luck
abbrev tbX5_luck : List (Nat × Instr × Nat) := [(0, .iload_n 1, 1), (1, .invokestatic 196, 3), (4, .ifCond .eq 32, 3), (7, .aload_n 0, 1), (8, .getfield 19, 3), (11, .iload_n 2, 1), (12, .invokevirtual 96, 3), (15, .ifCond .eq 21, 3), (18, .iload_n 3, 1), (19, .invokestatic 116, 3), (22, .ifCond .eq 14, 3), (25, .iload 4, 2), (27, .ifCond .lt 9, 3), (30, .iload 4, 2), (32, .iconst 1, 1), (33, .if_icmp .le 7, 3), (36, .ldc2_w 134, 3), (39, .lreturn, 1), (40, .iload_n 3, 1), (41, .invokestatic 119, 3), (44, .istore 5, 2), (46, .lconst 0, 1), (47, .lstore 6, 2), (49, .iconst 0, 1), (50, .istore 8, 2), (52, .iload 8, 2), (54, .iconst 1, 1), (55, .aload_n 0, 1), (56, .getfield 19, 3), (59, .getfield 77, 3), (62, .ishl, 1), (63, .if_icmp .ge 46, 3), (66, .aload_n 0, 1), (67, .getfield 29, 3), (70, .aload_n 0, 1), (71, .getfield 19, 3), (74, .iload_n 1, 1), (75, .iload 8, 2), (77, .invokevirtual 199, 3), (80, .lstore 9, 2), (82, .aload_n 0, 1), (83, .getfield 29, 3), (86, .getfield 143, 3), (89, .iload_n 2, 1), (90, .iaload, 1), (91, .iload 5, 2), (93, .if_icmp .ne 10, 3), (96, .lload 6, 2), (98, .lload 9, 2), (100, .ladd, 1), (101, .lstore 6, 2), (103, .iinc 8 1, 3), (106, .goto (-54), 3), (109, .lload 6, 2), (111, .ldc2_w 203, 3), (114, .iload 4, 2), (116, .invokestatic 205, 3), (119, .lreturn, 1)]
theorem dkX5_luck : dk cX5_luck tbX5_luck := dk_of (by decide +kernel)
abbrev cdX5_luck : Cond := Cond.code yX5_luck cX5_luck 11 (some .long)
abbrev rmX5_luck : Room := { frames := 4, cells := 0, slots := 0, locals := 101 }
theorem mwX5_luck : Cond.instanceMethod yX5_luck ∈ wsL_law ∧ Cond.selects RX5 yX5_luck yX5_luck ∈ wsL_law ∧ Cond.initialized RX5 ∈ wsL_law ∧ cdX5_luck ∈ wsL_law := ⟨inr33 _ (List.mem_of_getElem? (i := 7) rfl), inr33 _ (List.mem_of_getElem? (i := 8) rfl), inr1 _ (List.mem_of_getElem? (i := 2) rfl), inr33 _ (List.mem_of_getElem? (i := 9) rfl)⟩
theorem hdX5_luck : yX5_luck.cls = RX5 ∧ yX5_luck.cls ≠ "java/lang/invoke/MethodHandle" ∧ yX5_luck.cls ≠ "java/lang/invoke/VarHandle" ∧ (parseMethodDescriptor yX5_luck.desc).map (fun d => d.parameters.length) = some 4 := by decide +kernel
set_option maxHeartbeats 4000000 in
set_option maxRecDepth 100000 in
theorem kX5_luck (l : Launch) (g : Gx) (sz : Nat) (a_v a_rd a_nw a_tr a_da a_i0 a_i1 a_s0 a_s1 a_s2 a_s3 : Nat → Nat) (v : VT) (nw : CT) (da : DT) (p1 : Int32) (p2 : Int32) (p3 : Int32) (p4 : Int32) (res : Int64) (da_o : DT) (hf : fX5_luck p1 p2 p3 p4 v nw da = some (res, da_o)) : Met l yX5_luck (cdX5_luck :: wsL_law) rmX5_luck (va_Pc [.ref (a_v 0), .int p1, .int p2, .int p3, .int p4] (RWp g sz (wV g a_v a_rd a_nw a_tr a_da a_i0 a_i1 a_s0 a_s1 a_s2 a_s3 v ++ wC g a_nw nw ++ wD g a_da da))) (va_Ql (fun x (_ : Unit) => x = res) (fun _ => RWq g (va_A (wV g a_v a_rd a_nw a_tr a_da a_i0 a_i1 a_s0 a_s1 a_s2 a_s3 v ++ wC g a_nw nw ++ wD g a_da da) sz) (wV g a_v a_rd a_nw a_tr a_da a_i0 a_i1 a_s0 a_s1 a_s2 a_s3 v ++ wC g a_nw nw ++ wD g a_da da_o)) (va_A (wV g a_v a_rd a_nw a_tr a_da a_i0 a_i1 a_s0 a_s1 a_s2 a_s3 v ++ wC g a_nw nw ++ wD g a_da da) sz)) 0 0 (va_A (wV g a_v a_rd a_nw a_tr a_da a_i0 a_i1 a_s0 a_s1 a_s2 a_s3 v ++ wC g a_nw nw ++ wD g a_da da) sz) := by
  refine Met_rwl (cc := cX5_luck) (maxL := 11) (by decide) rfl (Nat.le_of_ble_eq_true rfl) ?_
  intro P E Z Mi AR BE ME CO A Q C hK hA fin w ls hl
  have hl : lv_has ls 11 [(0, .ref (a_v 0)), (1, .int p1), (2, .int p2), (3, .int p3), (4, .int p4)] := hl
  unfold fX5_luck at hf
  refine lv_iload_n C.1 C.2.1 (dk_at dkX5_luck 0 rfl) rfl (lv_at hl 1 rfl) ?_
  obtain ⟨r1, hq2, hf⟩ := bd1_at hf
  refine r_st (As := [.int p1]) (rest := []) C (kX3_isOutOfTen l p1 r1 hq2) (cwS0 C (inr33 _ (List.mem_of_getElem? (i := 11) rfl)) mwX3_isOutOfTen hdX3_isOutOfTen ⟨Nat.le_of_ble_eq_true rfl, Nat.le_of_ble_eq_true rfl⟩) rfl hl.1 rfl (Nat.le_of_ble_eq_true rfl) ⟨Nat.zero_le _, Nat.zero_le _⟩ (dk_at dkX5_luck 1 rfl) ?_
  refine lv_if_eq (tgt := 36) C.1 C.2.1 (dk_at dkX5_luck 2 rfl) (by decide) (fun c3 => ?_) (fun c3 => ?_)
  · have hf := (if_pos c3).symm.trans hf
    refine lv_ldc2 (v := (-1)) C.1 C.2.1 C.2.2.2.1 (C.2.2.2.2 _ (List.mem_cons_of_mem _ (inr21 _ (List.mem_of_getElem? (i := 21) rfl)))) (dk_at dkX5_luck 16 rfl) ?_
    cases hf
    exact fin _ _ _ _ _ (dk_at dkX5_luck 17 rfl) rfl w
  · have hf := (if_neg c3).symm.trans hf
    refine lv_aload_n C.1 C.2.1 (dk_at dkX5_luck 3 rfl) rfl (lv_at hl 0 rfl) ?_
    refine r_get (v := .ref (a_nw 0)) C hK w.1 (fun w h => List.mem_cons_of_mem _ (inlX5 w h)) 0 rfl rfl 1 (by decide) (List.mem_cons_of_mem _ (inr1 _ (List.mem_of_getElem? (i := 19) rfl))) rfl (dk_at dkX5_luck 4 rfl) ?_
    refine lv_iload_n C.1 C.2.1 (dk_at dkX5_luck 5 rfl) rfl (lv_at hl 2 rfl) ?_
    obtain ⟨r4, hq5, hf⟩ := bd1_at hf
    refine r_roV (As := [.int p2]) (rest := []) C (kX0_isSaying l g a_nw nw p2 r4 hq5) (cwV0 C (inr17 _ (List.mem_of_getElem? (i := 22) rfl)) mwX0_isSaying hdX0_isSaying ⟨Nat.le_of_ble_eq_true rfl, Nat.le_of_ble_eq_true rfl⟩) hK (w.1.sub [5, 6, 7, 8, 9, 10, 11, 12, 13, 14, 15] rfl) rfl rfl rfl hl.1 rfl (Nat.le_of_ble_eq_true rfl) ⟨Nat.zero_le _, Nat.zero_le _⟩ (dk_at dkX5_luck 6 rfl) ?_
    refine lv_if_eq (tgt := 36) C.1 C.2.1 (dk_at dkX5_luck 7 rfl) (by decide) (fun c6 => ?_) (fun c6 => ?_)
    · have hf := (if_pos c6).symm.trans hf
      refine lv_ldc2 (v := (-1)) C.1 C.2.1 C.2.2.2.1 (C.2.2.2.2 _ (List.mem_cons_of_mem _ (inr21 _ (List.mem_of_getElem? (i := 21) rfl)))) (dk_at dkX5_luck 16 rfl) ?_
      cases hf
      exact fin _ _ _ _ _ (dk_at dkX5_luck 17 rfl) rfl w
    · have hf := (if_neg c6).symm.trans hf
      refine lv_iload_n C.1 C.2.1 (dk_at dkX5_luck 8 rfl) rfl (lv_at hl 3 rfl) ?_
      obtain ⟨r7, hq8, hf⟩ := bd1_at hf
      refine r_st (As := [.int p3]) (rest := []) C (kX3_isCell l p3 r7 hq8) (cwS0 C (inr19 _ (List.mem_of_getElem? (i := 19) rfl)) mwX3_isCell hdX3_isCell ⟨Nat.le_of_ble_eq_true rfl, Nat.le_of_ble_eq_true rfl⟩) rfl hl.1 rfl (Nat.le_of_ble_eq_true rfl) ⟨Nat.zero_le _, Nat.zero_le _⟩ (dk_at dkX5_luck 9 rfl) ?_
      refine lv_if_eq (tgt := 36) C.1 C.2.1 (dk_at dkX5_luck 10 rfl) (by decide) (fun c9 => ?_) (fun c9 => ?_)
      · have hf := (if_pos c9).symm.trans hf
        refine lv_ldc2 (v := (-1)) C.1 C.2.1 C.2.2.2.1 (C.2.2.2.2 _ (List.mem_cons_of_mem _ (inr21 _ (List.mem_of_getElem? (i := 21) rfl)))) (dk_at dkX5_luck 16 rfl) ?_
        cases hf
        exact fin _ _ _ _ _ (dk_at dkX5_luck 17 rfl) rfl w
      · have hf := (if_neg c9).symm.trans hf
        refine lv_iload C.1 C.2.1 (dk_at dkX5_luck 11 rfl) (lv_at hl 4 rfl) ?_
        refine lv_if_lt (tgt := 36) C.1 C.2.1 (dk_at dkX5_luck 12 rfl) (by decide) (fun c10 => ?_) (fun c10 => ?_)
        · have hf := (if_pos c10).symm.trans hf
          refine lv_ldc2 (v := (-1)) C.1 C.2.1 C.2.2.2.1 (C.2.2.2.2 _ (List.mem_cons_of_mem _ (inr21 _ (List.mem_of_getElem? (i := 21) rfl)))) (dk_at dkX5_luck 16 rfl) ?_
          cases hf
          exact fin _ _ _ _ _ (dk_at dkX5_luck 17 rfl) rfl w
        · have hf := (if_neg c10).symm.trans hf
          refine lv_iload C.1 C.2.1 (dk_at dkX5_luck 13 rfl) (lv_at hl 4 rfl) ?_
          refine lv_iconst (v := 1) C.1 C.2.1 (dk_at dkX5_luck 14 rfl) (by decide) ?_
          refine lv_icmp_le (tgt := 40) C.1 C.2.1 (dk_at dkX5_luck 15 rfl) (by decide) (fun c11 => ?_) (fun c11 => ?_)
          · have hf := (if_pos c11).symm.trans hf
            refine lv_iload_n C.1 C.2.1 (dk_at dkX5_luck 18 rfl) rfl (lv_at hl 3 rfl) ?_
            obtain ⟨r12, hq13, hf⟩ := bd1_at hf
            refine r_st (As := [.int p3]) (rest := []) C (kX3_placeOf l p3 r12 hq13) (cwS0 C (inr19 _ (List.mem_of_getElem? (i := 20) rfl)) mwX3_placeOf hdX3_placeOf ⟨Nat.le_of_ble_eq_true rfl, Nat.le_of_ble_eq_true rfl⟩) rfl hl.1 rfl (Nat.le_of_ble_eq_true rfl) ⟨Nat.zero_le _, Nat.zero_le _⟩ (dk_at dkX5_luck 19 rfl) ?_
            refine lv_istore (lv' := [(5, .int r12), (0, .ref (a_v 0)), (1, .int p1), (2, .int p2), (3, .int p3), (4, .int p4)]) C.1 C.2.1 (dk_at dkX5_luck 20 rfl) hl (by decide) rfl (fun ls hl => ?_)
            refine lv_lconst (v := 0) C.1 C.2.1 (dk_at dkX5_luck 21 rfl) (by decide) ?_
            refine lv_lstore (lv' := [(6, .long 0), (5, .int r12), (0, .ref (a_v 0)), (1, .int p1), (2, .int p2), (3, .int p3), (4, .int p4)]) C.1 C.2.1 (dk_at dkX5_luck 22 rfl) hl (by decide) rfl (fun ls hl => ?_)
            refine lv_iconst (v := 0) C.1 C.2.1 (dk_at dkX5_luck 23 rfl) (by decide) ?_
            refine lv_istore (lv' := [(8, .int 0), (6, .long 0), (5, .int r12), (0, .ref (a_v 0)), (1, .int p1), (2, .int p2), (3, .int p3), (4, .int p4)]) C.1 C.2.1 (dk_at dkX5_luck 24 rfl) hl (by decide) rfl (fun ls hl => ?_)
            have L17 : ∀ (K : Int32 → Int64 → DT → Option (Int64 × DT)), (∀ (v14 : Int32) (v15 : Int64) (da_16 : DT) (H : Heap) (locs : List Loc) (ls : Array Slot), Wd g A Z.heap (wV g a_v a_rd a_nw a_tr a_da a_i0 a_i1 a_s0 a_s1 a_s2 a_s3 v ++ wC g a_nw nw ++ wD g a_da da_16) H locs → lv_has ls 11 [(6, .long v15), (4, .int p4)] → K v14 v15 da_16 = some (res, da_o) → W P l E rmX5_luck Z Mi AR BE ME CO H locs 0 0 Q (F0 Mi 109 ls [])) → ∀ (n : Nat), ∀ (v14 : Int32) (v15 : Int64) (da_16 : DT) (H : Heap) (locs : List Loc) (ls : Array Slot), Wd g A Z.heap (wV g a_v a_rd a_nw a_tr a_da a_i0 a_i1 a_s0 a_s1 a_s2 a_s3 v ++ wC g a_nw nw ++ wD g a_da da_16) H locs → lv_has ls 11 [(8, .int v14), (6, .long v15), (5, .int r12), (0, .ref (a_v 0)), (1, .int p1), (2, .int p2), (4, .int p4)] → fX5_luck_L52 nw p1 p2 r12 K n v14 v15 da_16 = some (res, da_o) → W P l E rmX5_luck Z Mi AR BE ME CO H locs 0 0 Q (F0 Mi 52 ls []) := by
              intro K hKe n
              induction n with
              | zero => intro v14 v15 da_16 H locs ls w hl hf; cases hf
              | succ n ih =>
                intro v14 v15 da_16 H locs ls w hl hf
                rw [fX5_luck_L52] at hf
                refine lv_iload C.1 C.2.1 (dk_at dkX5_luck 25 rfl) (lv_at hl 0 rfl) ?_
                refine lv_iconst (v := 1) C.1 C.2.1 (dk_at dkX5_luck 26 rfl) (by decide) ?_
                refine lv_aload_n C.1 C.2.1 (dk_at dkX5_luck 27 rfl) rfl (lv_at hl 3 rfl) ?_
                refine r_get (v := .ref (a_nw 0)) C hK w.1 (fun w h => List.mem_cons_of_mem _ (inlX5 w h)) 0 rfl rfl 1 (by decide) (List.mem_cons_of_mem _ (inr1 _ (List.mem_of_getElem? (i := 19) rfl))) rfl (dk_at dkX5_luck 28 rfl) ?_
                refine r_get (v := .int (cSa nw)) C hK w.1 (fun w h => List.mem_cons_of_mem _ (inlX0 w h)) 5 rfl rfl 3 (by decide) (List.mem_cons_of_mem _ (inr16 _ (List.mem_of_getElem? (i := 15) rfl))) rfl (dk_at dkX5_luck 29 rfl) ?_
                refine lv_ishl C.1 C.2.1 (dk_at dkX5_luck 30 rfl) ?_
                refine lv_icmp_ge (tgt := 109) C.1 C.2.1 (dk_at dkX5_luck 31 rfl) (by decide) (fun c18 => ?_) (fun c18 => ?_)
                · have hf := (if_pos c18).symm.trans hf
                  exact hKe v14 v15 da_16 _ _ _ w (lv_sub hl [1, 6] rfl) hf
                · have hf := (if_neg c18).symm.trans hf
                  refine lv_aload_n C.1 C.2.1 (dk_at dkX5_luck 32 rfl) rfl (lv_at hl 3 rfl) ?_
                  refine r_get (v := .ref (a_da 0)) C hK w.1 (fun w h => List.mem_cons_of_mem _ (inlX5 w h)) 0 rfl rfl 3 (by decide) (List.mem_cons_of_mem _ (inr2 _ (List.mem_of_getElem? (i := 0) rfl))) rfl (dk_at dkX5_luck 33 rfl) ?_
                  refine lv_aload_n C.1 C.2.1 (dk_at dkX5_luck 34 rfl) rfl (lv_at hl 3 rfl) ?_
                  refine r_get (v := .ref (a_nw 0)) C hK w.1 (fun w h => List.mem_cons_of_mem _ (inlX5 w h)) 0 rfl rfl 1 (by decide) (List.mem_cons_of_mem _ (inr1 _ (List.mem_of_getElem? (i := 19) rfl))) rfl (dk_at dkX5_luck 35 rfl) ?_
                  refine lv_iload_n C.1 C.2.1 (dk_at dkX5_luck 36 rfl) rfl (lv_at hl 4 rfl) ?_
                  refine lv_iload C.1 C.2.1 (dk_at dkX5_luck 37 rfl) (lv_at hl 0 rfl) ?_
                  obtain ⟨r19, da_20, hq21, hf⟩ := bd2_at hf
                  refine r_rwl (As := [.ref (a_nw 0), .int p1, .int v14]) (rest := []) (wr := wV g a_v a_rd a_nw a_tr a_da a_i0 a_i1 a_s0 a_s1 a_s2 a_s3 v) (ws' := wV g a_v a_rd a_nw a_tr a_da a_i0 a_i1 a_s0 a_s1 a_s2 a_s3 v ++ wC g a_nw nw ++ wD g a_da da_20) C (kX1_passByOdds l g _ a_da a_nw da_16 nw p1 v14 r19 da_20 hq21) (cwV0 C (inr33 _ (List.mem_of_getElem? (i := 14) rfl)) mwX1_passByOdds hdX1_passByOdds ⟨Nat.le_of_ble_eq_true rfl, Nat.le_of_ble_eq_true rfl⟩) hK w hA [16, 17, 18, 19, 20, 21, 5, 6, 7, 8, 9, 10, 11, 12, 13, 14, 15] [0, 1, 2, 3, 4] [0, 1, 2, 3, 4, 11, 12, 13, 14, 15, 16, 17, 18, 19, 20, 21, 5, 6, 7, 8, 9, 10] (by decide) rfl rfl (by decide) (by decide) rfl (by decide) rfl rfl rfl hl.1 rfl (Nat.le_of_ble_eq_true rfl) ⟨Nat.zero_le _, Nat.zero_le _⟩ (dk_at dkX5_luck 38 rfl) (fun H locs w => ?_)
                  refine lv_lstore (lv' := [(9, .long r19), (8, .int v14), (6, .long v15), (5, .int r12), (0, .ref (a_v 0)), (1, .int p1), (2, .int p2), (4, .int p4)]) C.1 C.2.1 (dk_at dkX5_luck 39 rfl) hl (by decide) rfl (fun ls hl => ?_)
                  refine lv_aload_n C.1 C.2.1 (dk_at dkX5_luck 40 rfl) rfl (lv_at hl 4 rfl) ?_
                  refine r_get (v := .ref (a_da 0)) C hK w.1 (fun w h => List.mem_cons_of_mem _ (inlX5 w h)) 0 rfl rfl 3 (by decide) (List.mem_cons_of_mem _ (inr2 _ (List.mem_of_getElem? (i := 0) rfl))) rfl (dk_at dkX5_luck 41 rfl) ?_
                  refine r_get (v := .ref (a_da 1)) C hK w.1 (fun w h => List.mem_cons_of_mem _ (inlX1 w h)) 16 rfl rfl 0 (by decide) (List.mem_cons_of_mem _ (inr23 _ (List.mem_of_getElem? (i := 4) rfl))) rfl (dk_at dkX5_luck 42 rfl) ?_
                  refine lv_iload_n C.1 C.2.1 (dk_at dkX5_luck 43 rfl) rfl (lv_at hl 6 rfl) ?_
                  obtain ⟨h22, hf⟩ := gd_at hf
                  refine r_iald (k := p2.toNatClampNeg) (f := (dPl da_20)) C hK w.1 17 rfl h22 rfl (dk_at dkX5_luck 44 rfl) ?_
                  refine lv_topi (fun x23 ex23 => ?_)
                  have hf := nm_at ex23 hf
                  refine lv_iload C.1 C.2.1 (dk_at dkX5_luck 45 rfl) (lv_at hl 3 rfl) ?_
                  refine lv_icmp_ne (tgt := 103) C.1 C.2.1 (dk_at dkX5_luck 46 rfl) (by decide) (fun c24 => ?_) (fun c24 => ?_)
                  · have hf := (if_neg c24).symm.trans hf
                    obtain ⟨x25, ex25⟩ : ∃ z : Int32, z = v14 + 1 := ⟨_, rfl⟩
                    have hf := nm_at ex25 hf
                    refine lv_iinc (v := x25) (lv' := [(8, .int x25), (9, .long r19), (6, .long v15), (5, .int r12), (0, .ref (a_v 0)), (1, .int p1), (2, .int p2), (4, .int p4)]) C.1 C.2.1 (dk_at dkX5_luck 51 rfl) hl (k := 1) rfl (by rw [ex25]; rfl) (by decide) rfl (fun ls hl => ?_)
                    refine lv_goto (tgt := 52) C.1 C.2.1 (dk_at dkX5_luck 52 rfl) (by decide) ?_
                    exact ih x25 v15 da_20 _ _ _ w (lv_sub hl [0, 2, 3, 4, 5, 6, 7] rfl) hf
                  · have hf := (if_pos c24).symm.trans hf
                    refine lv_lload C.1 C.2.1 (dk_at dkX5_luck 47 rfl) (lv_at hl 2 rfl) ?_
                    refine lv_lload C.1 C.2.1 (dk_at dkX5_luck 48 rfl) (lv_at hl 0 rfl) ?_
                    refine lv_ladd C.1 C.2.1 (dk_at dkX5_luck 49 rfl) ?_
                    refine lv_topl (fun x26 ex26 => ?_)
                    have hf := nm_at ex26 hf
                    refine lv_lstore (lv' := [(6, .long x26), (9, .long r19), (8, .int v14), (5, .int r12), (0, .ref (a_v 0)), (1, .int p1), (2, .int p2), (4, .int p4)]) C.1 C.2.1 (dk_at dkX5_luck 50 rfl) hl (by decide) rfl (fun ls hl => ?_)
                    obtain ⟨x27, ex27⟩ : ∃ z : Int32, z = v14 + 1 := ⟨_, rfl⟩
                    have hf := nm_at ex27 hf
                    refine lv_iinc (v := x27) (lv' := [(8, .int x27), (6, .long x26), (9, .long r19), (5, .int r12), (0, .ref (a_v 0)), (1, .int p1), (2, .int p2), (4, .int p4)]) C.1 C.2.1 (dk_at dkX5_luck 51 rfl) hl (k := 2) rfl (by rw [ex27]; rfl) (by decide) rfl (fun ls hl => ?_)
                    refine lv_goto (tgt := 52) C.1 C.2.1 (dk_at dkX5_luck 52 rfl) (by decide) ?_
                    exact ih x27 x26 da_20 _ _ _ w (lv_sub hl [0, 1, 3, 4, 5, 6, 7] rfl) hf
            refine L17 _ ?_ 4096 0 0 da _ _ _ w (lv_sub hl [0, 1, 2, 3, 4, 5, 7] rfl) hf
            clear hf
            intro v14 v15 da_16 H locs ls w hl hf
            refine lv_lload C.1 C.2.1 (dk_at dkX5_luck 53 rfl) (lv_at hl 0 rfl) ?_
            refine lv_ldc2 (v := 100000) C.1 C.2.1 C.2.2.2.1 (C.2.2.2.2 _ (List.mem_cons_of_mem _ (inr33 _ (List.mem_of_getElem? (i := 10) rfl)))) (dk_at dkX5_luck 54 rfl) ?_
            refine lv_iload C.1 C.2.1 (dk_at dkX5_luck 55 rfl) (lv_at hl 1 rfl) ?_
            obtain ⟨r28, hq29, hf⟩ := bd1_at hf
            refine r_stl (As := [.long v15, .long 100000, .int p4]) (rest := []) C (kX3_lowest l v15 100000 p4 r28 hq29) (cwS0 C (inr33 _ (List.mem_of_getElem? (i := 20) rfl)) mwX3_lowest hdX3_lowest ⟨Nat.le_of_ble_eq_true rfl, Nat.le_of_ble_eq_true rfl⟩) rfl hl.1 rfl (Nat.le_of_ble_eq_true rfl) ⟨Nat.zero_le _, Nat.zero_le _⟩ (dk_at dkX5_luck 56 rfl) ?_
            cases hf
            exact fin _ _ _ _ _ (dk_at dkX5_luck 57 rfl) rfl w
          · have hf := (if_neg c11).symm.trans hf
            refine lv_ldc2 (v := (-1)) C.1 C.2.1 C.2.2.2.1 (C.2.2.2.2 _ (List.mem_cons_of_mem _ (inr21 _ (List.mem_of_getElem? (i := 21) rfl)))) (dk_at dkX5_luck 16 rfl) ?_
            cases hf
            exact fin _ _ _ _ _ (dk_at dkX5_luck 17 rfl) rfl w
-- X5.mean
abbrev tbX5_mean : List (Nat × Instr × Nat) := [(0, .iload_n 1, 1), (1, .invokestatic 196, 3), (4, .ifCond .eq 12, 3), (7, .iload_n 2, 1), (8, .ifCond .lt 8, 3), (11, .iload_n 2, 1), (12, .iconst 1, 1), (13, .if_icmp .le 7, 3), (16, .ldc2_w 134, 3), (19, .lreturn, 1), (20, .lconst 0, 1), (21, .lstore_n 3, 1), (22, .iconst 0, 1), (23, .istore 5, 2), (25, .iload 5, 2), (27, .iconst 1, 1), (28, .aload_n 0, 1), (29, .getfield 19, 3), (32, .getfield 77, 3), (35, .ishl, 1), (36, .if_icmp .ge 43, 3), (39, .aload_n 0, 1), (40, .getfield 29, 3), (43, .aload_n 0, 1), (44, .getfield 19, 3), (47, .iload_n 1, 1), (48, .iload 5, 2), (50, .invokevirtual 199, 3), (53, .lstore 6, 2), (55, .lload_n 3, 1), (56, .lload 6, 2), (58, .aload_n 0, 1), (59, .getfield 29, 3), (62, .aload_n 0, 1), (63, .getfield 19, 3), (66, .invokevirtual 158, 3), (69, .i2l, 1), (70, .lmul, 1), (71, .ladd, 1), (72, .lstore_n 3, 1), (73, .iinc 5 1, 3), (76, .goto (-51), 3), (79, .lload_n 3, 1), (80, .ldc2_w 203, 3), (83, .iload_n 2, 1), (84, .invokestatic 205, 3), (87, .lreturn, 1)]
theorem dkX5_mean : dk cX5_mean tbX5_mean := dk_of (by decide +kernel)
abbrev cdX5_mean : Cond := Cond.code yX5_mean cX5_mean 8 (some .long)
abbrev rmX5_mean : Room := { frames := 4, cells := 0, slots := 0, locals := 101 }
theorem mwX5_mean : Cond.instanceMethod yX5_mean ∈ wsL_law ∧ Cond.selects RX5 yX5_mean yX5_mean ∈ wsL_law ∧ Cond.initialized RX5 ∈ wsL_law ∧ cdX5_mean ∈ wsL_law := ⟨inr34 _ (List.mem_of_getElem? (i := 19) rfl), inr34 _ (List.mem_of_getElem? (i := 20) rfl), inr1 _ (List.mem_of_getElem? (i := 2) rfl), inr34 _ (List.mem_of_getElem? (i := 21) rfl)⟩
theorem hdX5_mean : yX5_mean.cls = RX5 ∧ yX5_mean.cls ≠ "java/lang/invoke/MethodHandle" ∧ yX5_mean.cls ≠ "java/lang/invoke/VarHandle" ∧ (parseMethodDescriptor yX5_mean.desc).map (fun d => d.parameters.length) = some 2 := by decide +kernel
set_option maxHeartbeats 4000000 in
set_option maxRecDepth 100000 in
theorem kX5_mean (l : Launch) (g : Gx) (sz : Nat) (a_v a_rd a_nw a_tr a_da a_i0 a_i1 a_s0 a_s1 a_s2 a_s3 : Nat → Nat) (v : VT) (nw : CT) (da : DT) (p1 : Int32) (p2 : Int32) (res : Int64) (da_o : DT) (hf : fX5_mean p1 p2 v nw da = some (res, da_o)) : Met l yX5_mean (cdX5_mean :: wsL_law) rmX5_mean (va_Pc [.ref (a_v 0), .int p1, .int p2] (RWp g sz (wV g a_v a_rd a_nw a_tr a_da a_i0 a_i1 a_s0 a_s1 a_s2 a_s3 v ++ wC g a_nw nw ++ wD g a_da da))) (va_Ql (fun x (_ : Unit) => x = res) (fun _ => RWq g (va_A (wV g a_v a_rd a_nw a_tr a_da a_i0 a_i1 a_s0 a_s1 a_s2 a_s3 v ++ wC g a_nw nw ++ wD g a_da da) sz) (wV g a_v a_rd a_nw a_tr a_da a_i0 a_i1 a_s0 a_s1 a_s2 a_s3 v ++ wC g a_nw nw ++ wD g a_da da_o)) (va_A (wV g a_v a_rd a_nw a_tr a_da a_i0 a_i1 a_s0 a_s1 a_s2 a_s3 v ++ wC g a_nw nw ++ wD g a_da da) sz)) 0 0 (va_A (wV g a_v a_rd a_nw a_tr a_da a_i0 a_i1 a_s0 a_s1 a_s2 a_s3 v ++ wC g a_nw nw ++ wD g a_da da) sz) := by
  refine Met_rwl (cc := cX5_mean) (maxL := 8) (by decide) rfl (Nat.le_of_ble_eq_true rfl) ?_
  intro P E Z Mi AR BE ME CO A Q C hK hA fin w ls hl
  have hl : lv_has ls 8 [(0, .ref (a_v 0)), (1, .int p1), (2, .int p2)] := hl
  unfold fX5_mean at hf
  refine lv_iload_n C.1 C.2.1 (dk_at dkX5_mean 0 rfl) rfl (lv_at hl 1 rfl) ?_
  obtain ⟨r1, hq2, hf⟩ := bd1_at hf
  refine r_st (As := [.int p1]) (rest := []) C (kX3_isOutOfTen l p1 r1 hq2) (cwS0 C (inr33 _ (List.mem_of_getElem? (i := 11) rfl)) mwX3_isOutOfTen hdX3_isOutOfTen ⟨Nat.le_of_ble_eq_true rfl, Nat.le_of_ble_eq_true rfl⟩) rfl hl.1 rfl (Nat.le_of_ble_eq_true rfl) ⟨Nat.zero_le _, Nat.zero_le _⟩ (dk_at dkX5_mean 1 rfl) ?_
  refine lv_if_eq (tgt := 16) C.1 C.2.1 (dk_at dkX5_mean 2 rfl) (by decide) (fun c3 => ?_) (fun c3 => ?_)
  · have hf := (if_pos c3).symm.trans hf
    refine lv_ldc2 (v := (-1)) C.1 C.2.1 C.2.2.2.1 (C.2.2.2.2 _ (List.mem_cons_of_mem _ (inr21 _ (List.mem_of_getElem? (i := 21) rfl)))) (dk_at dkX5_mean 8 rfl) ?_
    cases hf
    exact fin _ _ _ _ _ (dk_at dkX5_mean 9 rfl) rfl w
  · have hf := (if_neg c3).symm.trans hf
    refine lv_iload_n C.1 C.2.1 (dk_at dkX5_mean 3 rfl) rfl (lv_at hl 2 rfl) ?_
    refine lv_if_lt (tgt := 16) C.1 C.2.1 (dk_at dkX5_mean 4 rfl) (by decide) (fun c4 => ?_) (fun c4 => ?_)
    · have hf := (if_pos c4).symm.trans hf
      refine lv_ldc2 (v := (-1)) C.1 C.2.1 C.2.2.2.1 (C.2.2.2.2 _ (List.mem_cons_of_mem _ (inr21 _ (List.mem_of_getElem? (i := 21) rfl)))) (dk_at dkX5_mean 8 rfl) ?_
      cases hf
      exact fin _ _ _ _ _ (dk_at dkX5_mean 9 rfl) rfl w
    · have hf := (if_neg c4).symm.trans hf
      refine lv_iload_n C.1 C.2.1 (dk_at dkX5_mean 5 rfl) rfl (lv_at hl 2 rfl) ?_
      refine lv_iconst (v := 1) C.1 C.2.1 (dk_at dkX5_mean 6 rfl) (by decide) ?_
      refine lv_icmp_le (tgt := 20) C.1 C.2.1 (dk_at dkX5_mean 7 rfl) (by decide) (fun c5 => ?_) (fun c5 => ?_)
      · have hf := (if_pos c5).symm.trans hf
        refine lv_lconst (v := 0) C.1 C.2.1 (dk_at dkX5_mean 10 rfl) (by decide) ?_
        refine lv_lstore_n (lv' := [(3, .long 0), (0, .ref (a_v 0)), (1, .int p1), (2, .int p2)]) C.1 C.2.1 (dk_at dkX5_mean 11 rfl) rfl hl (by decide) rfl (fun ls hl => ?_)
        refine lv_iconst (v := 0) C.1 C.2.1 (dk_at dkX5_mean 12 rfl) (by decide) ?_
        refine lv_istore (lv' := [(5, .int 0), (3, .long 0), (0, .ref (a_v 0)), (1, .int p1), (2, .int p2)]) C.1 C.2.1 (dk_at dkX5_mean 13 rfl) hl (by decide) rfl (fun ls hl => ?_)
        have L9 : ∀ (K : Int32 → Int64 → DT → Option (Int64 × DT)), (∀ (v6 : Int32) (v7 : Int64) (da_8 : DT) (H : Heap) (locs : List Loc) (ls : Array Slot), Wd g A Z.heap (wV g a_v a_rd a_nw a_tr a_da a_i0 a_i1 a_s0 a_s1 a_s2 a_s3 v ++ wC g a_nw nw ++ wD g a_da da_8) H locs → lv_has ls 8 [(3, .long v7), (2, .int p2)] → K v6 v7 da_8 = some (res, da_o) → W P l E rmX5_mean Z Mi AR BE ME CO H locs 0 0 Q (F0 Mi 79 ls [])) → ∀ (n : Nat), ∀ (v6 : Int32) (v7 : Int64) (da_8 : DT) (H : Heap) (locs : List Loc) (ls : Array Slot), Wd g A Z.heap (wV g a_v a_rd a_nw a_tr a_da a_i0 a_i1 a_s0 a_s1 a_s2 a_s3 v ++ wC g a_nw nw ++ wD g a_da da_8) H locs → lv_has ls 8 [(5, .int v6), (3, .long v7), (0, .ref (a_v 0)), (1, .int p1), (2, .int p2)] → fX5_mean_L25 nw p1 K n v6 v7 da_8 = some (res, da_o) → W P l E rmX5_mean Z Mi AR BE ME CO H locs 0 0 Q (F0 Mi 25 ls []) := by
          intro K hKe n
          induction n with
          | zero => intro v6 v7 da_8 H locs ls w hl hf; cases hf
          | succ n ih =>
            intro v6 v7 da_8 H locs ls w hl hf
            rw [fX5_mean_L25] at hf
            refine lv_iload C.1 C.2.1 (dk_at dkX5_mean 14 rfl) (lv_at hl 0 rfl) ?_
            refine lv_iconst (v := 1) C.1 C.2.1 (dk_at dkX5_mean 15 rfl) (by decide) ?_
            refine lv_aload_n C.1 C.2.1 (dk_at dkX5_mean 16 rfl) rfl (lv_at hl 2 rfl) ?_
            refine r_get (v := .ref (a_nw 0)) C hK w.1 (fun w h => List.mem_cons_of_mem _ (inlX5 w h)) 0 rfl rfl 1 (by decide) (List.mem_cons_of_mem _ (inr1 _ (List.mem_of_getElem? (i := 19) rfl))) rfl (dk_at dkX5_mean 17 rfl) ?_
            refine r_get (v := .int (cSa nw)) C hK w.1 (fun w h => List.mem_cons_of_mem _ (inlX0 w h)) 5 rfl rfl 3 (by decide) (List.mem_cons_of_mem _ (inr16 _ (List.mem_of_getElem? (i := 15) rfl))) rfl (dk_at dkX5_mean 18 rfl) ?_
            refine lv_ishl C.1 C.2.1 (dk_at dkX5_mean 19 rfl) ?_
            refine lv_icmp_ge (tgt := 79) C.1 C.2.1 (dk_at dkX5_mean 20 rfl) (by decide) (fun c10 => ?_) (fun c10 => ?_)
            · have hf := (if_pos c10).symm.trans hf
              exact hKe v6 v7 da_8 _ _ _ w (lv_sub hl [1, 4] rfl) hf
            · have hf := (if_neg c10).symm.trans hf
              refine lv_aload_n C.1 C.2.1 (dk_at dkX5_mean 21 rfl) rfl (lv_at hl 2 rfl) ?_
              refine r_get (v := .ref (a_da 0)) C hK w.1 (fun w h => List.mem_cons_of_mem _ (inlX5 w h)) 0 rfl rfl 3 (by decide) (List.mem_cons_of_mem _ (inr2 _ (List.mem_of_getElem? (i := 0) rfl))) rfl (dk_at dkX5_mean 22 rfl) ?_
              refine lv_aload_n C.1 C.2.1 (dk_at dkX5_mean 23 rfl) rfl (lv_at hl 2 rfl) ?_
              refine r_get (v := .ref (a_nw 0)) C hK w.1 (fun w h => List.mem_cons_of_mem _ (inlX5 w h)) 0 rfl rfl 1 (by decide) (List.mem_cons_of_mem _ (inr1 _ (List.mem_of_getElem? (i := 19) rfl))) rfl (dk_at dkX5_mean 24 rfl) ?_
              refine lv_iload_n C.1 C.2.1 (dk_at dkX5_mean 25 rfl) rfl (lv_at hl 3 rfl) ?_
              refine lv_iload C.1 C.2.1 (dk_at dkX5_mean 26 rfl) (lv_at hl 0 rfl) ?_
              obtain ⟨r11, da_12, hq13, hf⟩ := bd2_at hf
              refine r_rwl (As := [.ref (a_nw 0), .int p1, .int v6]) (rest := []) (wr := wV g a_v a_rd a_nw a_tr a_da a_i0 a_i1 a_s0 a_s1 a_s2 a_s3 v) (ws' := wV g a_v a_rd a_nw a_tr a_da a_i0 a_i1 a_s0 a_s1 a_s2 a_s3 v ++ wC g a_nw nw ++ wD g a_da da_12) C (kX1_passByOdds l g _ a_da a_nw da_8 nw p1 v6 r11 da_12 hq13) (cwV0 C (inr33 _ (List.mem_of_getElem? (i := 14) rfl)) mwX1_passByOdds hdX1_passByOdds ⟨Nat.le_of_ble_eq_true rfl, Nat.le_of_ble_eq_true rfl⟩) hK w hA [16, 17, 18, 19, 20, 21, 5, 6, 7, 8, 9, 10, 11, 12, 13, 14, 15] [0, 1, 2, 3, 4] [0, 1, 2, 3, 4, 11, 12, 13, 14, 15, 16, 17, 18, 19, 20, 21, 5, 6, 7, 8, 9, 10] (by decide) rfl rfl (by decide) (by decide) rfl (by decide) rfl rfl rfl hl.1 rfl (Nat.le_of_ble_eq_true rfl) ⟨Nat.zero_le _, Nat.zero_le _⟩ (dk_at dkX5_mean 27 rfl) (fun H locs w => ?_)
              refine lv_lstore (lv' := [(6, .long r11), (5, .int v6), (3, .long v7), (0, .ref (a_v 0)), (1, .int p1), (2, .int p2)]) C.1 C.2.1 (dk_at dkX5_mean 28 rfl) hl (by decide) rfl (fun ls hl => ?_)
              refine lv_lload_n C.1 C.2.1 (dk_at dkX5_mean 29 rfl) rfl (lv_at hl 2 rfl) ?_
              refine lv_lload C.1 C.2.1 (dk_at dkX5_mean 30 rfl) (lv_at hl 0 rfl) ?_
              refine lv_aload_n C.1 C.2.1 (dk_at dkX5_mean 31 rfl) rfl (lv_at hl 3 rfl) ?_
              refine r_get (v := .ref (a_da 0)) C hK w.1 (fun w h => List.mem_cons_of_mem _ (inlX5 w h)) 0 rfl rfl 3 (by decide) (List.mem_cons_of_mem _ (inr2 _ (List.mem_of_getElem? (i := 0) rfl))) rfl (dk_at dkX5_mean 32 rfl) ?_
              refine lv_aload_n C.1 C.2.1 (dk_at dkX5_mean 33 rfl) rfl (lv_at hl 3 rfl) ?_
              refine r_get (v := .ref (a_nw 0)) C hK w.1 (fun w h => List.mem_cons_of_mem _ (inlX5 w h)) 0 rfl rfl 1 (by decide) (List.mem_cons_of_mem _ (inr1 _ (List.mem_of_getElem? (i := 19) rfl))) rfl (dk_at dkX5_mean 34 rfl) ?_
              obtain ⟨r14, hq15, hf⟩ := bd1_at hf
              refine r_roV (As := [.ref (a_nw 0)]) (rest := [.long r11, .long v7]) C (kX1_heard l g a_da a_nw da_12 nw r14 hq15) (cwV0 C (inr27 _ (List.mem_of_getElem? (i := 5) rfl)) mwX1_heard hdX1_heard ⟨Nat.le_of_ble_eq_true rfl, Nat.le_of_ble_eq_true rfl⟩) hK (w.1.sub [16, 17, 18, 19, 20, 21, 5, 6, 7, 8, 9, 10, 11, 12, 13, 14, 15] rfl) rfl rfl rfl hl.1 rfl (Nat.le_of_ble_eq_true rfl) ⟨Nat.zero_le _, Nat.zero_le _⟩ (dk_at dkX5_mean 35 rfl) ?_
              refine lv_i2l C.1 C.2.1 (dk_at dkX5_mean 36 rfl) rfl ?_
              refine lv_lmul C.1 C.2.1 (dk_at dkX5_mean 37 rfl) ?_
              refine lv_ladd C.1 C.2.1 (dk_at dkX5_mean 38 rfl) ?_
              refine lv_topl (fun x16 ex16 => ?_)
              have hf := nm_at ex16 hf
              refine lv_lstore_n (lv' := [(3, .long x16), (6, .long r11), (5, .int v6), (0, .ref (a_v 0)), (1, .int p1), (2, .int p2)]) C.1 C.2.1 (dk_at dkX5_mean 39 rfl) rfl hl (by decide) rfl (fun ls hl => ?_)
              obtain ⟨x17, ex17⟩ : ∃ z : Int32, z = v6 + 1 := ⟨_, rfl⟩
              have hf := nm_at ex17 hf
              refine lv_iinc (v := x17) (lv' := [(5, .int x17), (3, .long x16), (6, .long r11), (0, .ref (a_v 0)), (1, .int p1), (2, .int p2)]) C.1 C.2.1 (dk_at dkX5_mean 40 rfl) hl (k := 2) rfl (by rw [ex17]; rfl) (by decide) rfl (fun ls hl => ?_)
              refine lv_goto (tgt := 25) C.1 C.2.1 (dk_at dkX5_mean 41 rfl) (by decide) ?_
              exact ih x17 x16 da_12 _ _ _ w (lv_sub hl [0, 1, 3, 4, 5] rfl) hf
        refine L9 _ ?_ 4096 0 0 da _ _ _ w (lv_sub hl [0, 1, 2, 3, 4] rfl) hf
        clear hf
        intro v6 v7 da_8 H locs ls w hl hf
        refine lv_lload_n C.1 C.2.1 (dk_at dkX5_mean 42 rfl) rfl (lv_at hl 0 rfl) ?_
        refine lv_ldc2 (v := 100000) C.1 C.2.1 C.2.2.2.1 (C.2.2.2.2 _ (List.mem_cons_of_mem _ (inr33 _ (List.mem_of_getElem? (i := 10) rfl)))) (dk_at dkX5_mean 43 rfl) ?_
        refine lv_iload_n C.1 C.2.1 (dk_at dkX5_mean 44 rfl) rfl (lv_at hl 1 rfl) ?_
        obtain ⟨r18, hq19, hf⟩ := bd1_at hf
        refine r_stl (As := [.long v7, .long 100000, .int p2]) (rest := []) C (kX3_lowest l v7 100000 p2 r18 hq19) (cwS0 C (inr33 _ (List.mem_of_getElem? (i := 20) rfl)) mwX3_lowest hdX3_lowest ⟨Nat.le_of_ble_eq_true rfl, Nat.le_of_ble_eq_true rfl⟩) rfl hl.1 rfl (Nat.le_of_ble_eq_true rfl) ⟨Nat.zero_le _, Nat.zero_le _⟩ (dk_at dkX5_mean 45 rfl) ?_
        cases hf
        exact fin _ _ _ _ _ (dk_at dkX5_mean 46 rfl) rfl w
      · have hf := (if_neg c5).symm.trans hf
        refine lv_ldc2 (v := (-1)) C.1 C.2.1 C.2.2.2.1 (C.2.2.2.2 _ (List.mem_cons_of_mem _ (inr21 _ (List.mem_of_getElem? (i := 21) rfl)))) (dk_at dkX5_mean 8 rfl) ?_
        cases hf
        exact fin _ _ _ _ _ (dk_at dkX5_mean 9 rfl) rfl w
