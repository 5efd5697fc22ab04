-- X5.see
abbrev tbX5_see : List (Nat × Instr × Nat) := [(0, .aload_n 0, 1), (1, .getfield 19, 3), (4, .iload_n 1, 1), (5, .invokevirtual 96, 3), (8, .ifCond .eq 10, 3), (11, .iload_n 2, 1), (12, .invokestatic 116, 3), (15, .ifCond .ne 5, 3), (18, .iconst (-1), 1), (19, .ireturn, 1), (20, .aload_n 0, 1), (21, .getfield 19, 3), (24, .getfield 209, 3), (27, .bipush 6, 2), (29, .if_icmp .lt 6, 3), (32, .bipush (-3), 2), (34, .ireturn, 1), (35, .aload_n 0, 1), (36, .getfield 19, 3), (39, .getfield 212, 3), (42, .aload_n 0, 1), (43, .getfield 19, 3), (46, .getfield 209, 3), (49, .iload_n 1, 1), (50, .iastore, 1), (51, .aload_n 0, 1), (52, .getfield 19, 3), (55, .getfield 215, 3), (58, .aload_n 0, 1), (59, .getfield 19, 3), (62, .getfield 209, 3), (65, .iload_n 2, 1), (66, .invokestatic 119, 3), (69, .iastore, 1), (70, .aload_n 0, 1), (71, .getfield 19, 3), (74, .dup, 1), (75, .getfield 209, 3), (78, .iconst 1, 1), (79, .iadd, 1), (80, .putfield 209, 3), (83, .aload_n 0, 1), (84, .getfield 19, 3), (87, .getfield 209, 3), (90, .ireturn, 1)]
theorem dkX5_see : dk cX5_see tbX5_see := dk_of (by decide +kernel)
abbrev cdX5_see : Cond := Cond.code yX5_see cX5_see 3 (some .int)
abbrev rmX5_see : Room := { frames := 1, cells := 0, slots := 0, locals := 21 }
theorem mwX5_see : Cond.instanceMethod yX5_see ∈ wsL_law ∧ Cond.selects RX5 yX5_see yX5_see ∈ wsL_law ∧ Cond.initialized RX5 ∈ wsL_law ∧ cdX5_see ∈ wsL_law := ⟨inr35 _ (List.mem_of_getElem? (i := 3) rfl), inr35 _ (List.mem_of_getElem? (i := 4) rfl), inr1 _ (List.mem_of_getElem? (i := 2) rfl), inr35 _ (List.mem_of_getElem? (i := 5) rfl)⟩
theorem hdX5_see : yX5_see.cls = RX5 ∧ yX5_see.cls ≠ "java/lang/invoke/MethodHandle" ∧ yX5_see.cls ≠ "java/lang/invoke/VarHandle" ∧ (parseMethodDescriptor yX5_see.desc).map (fun d => d.parameters.length) = some 2 := by decide +kernel
set_option maxHeartbeats 4000000 in
set_option maxRecDepth 100000 in
theorem kX5_see (l : Launch) (g : Gx) (sz : Nat) (a_v a_rd a_nw a_tr a_da a_i0 a_i1 a_s0 a_s1 a_s2 a_s3 : Nat → Nat) (v : VT) (nw : CT) (p1 : Int32) (p2 : Int32) (res : Int32) (nw_o : CT) (hf : fX5_see p1 p2 v nw = some (res, nw_o)) : Met l yX5_see (cdX5_see :: wsL_law) rmX5_see (va_Pc [.ref (a_v 0), .int p1, .int p2] (RWp g sz (wV g a_v a_rd a_nw a_tr a_da a_i0 a_i1 a_s0 a_s1 a_s2 a_s3 v ++ wC g a_nw nw))) (va_Qi (fun x (_ : Unit) => x = res) (fun _ => RWq g (va_A (wV g a_v a_rd a_nw a_tr a_da a_i0 a_i1 a_s0 a_s1 a_s2 a_s3 v ++ wC g a_nw nw) sz) (wV g a_v a_rd a_nw a_tr a_da a_i0 a_i1 a_s0 a_s1 a_s2 a_s3 v ++ wC g a_nw nw_o)) (va_A (wV g a_v a_rd a_nw a_tr a_da a_i0 a_i1 a_s0 a_s1 a_s2 a_s3 v ++ wC g a_nw nw) sz)) 0 0 (va_A (wV g a_v a_rd a_nw a_tr a_da a_i0 a_i1 a_s0 a_s1 a_s2 a_s3 v ++ wC g a_nw nw) sz) := by
  refine Met_rwi (cc := cX5_see) (maxL := 3) (by decide) rfl (Nat.le_of_ble_eq_true rfl) ?_
  intro P E Z Mi AR BE ME CO A Q C hK hA fin w ls hl
  have hl : lv_has ls 3 [(0, .ref (a_v 0)), (1, .int p1), (2, .int p2)] := hl
  unfold fX5_see at hf
  refine lv_aload_n C.1 C.2.1 (dk_at dkX5_see 0 rfl) rfl (lv_at hl 0 rfl) ?_
  refine r_get (v := .ref (a_nw 0)) C hK w.1 (fun w h => List.mem_cons_of_mem _ (inlX5 w h)) 0 rfl rfl 1 (by decide) (List.mem_cons_of_mem _ (inr1 _ (List.mem_of_getElem? (i := 19) rfl))) rfl (dk_at dkX5_see 1 rfl) ?_
  refine lv_iload_n C.1 C.2.1 (dk_at dkX5_see 2 rfl) rfl (lv_at hl 1 rfl) ?_
  obtain ⟨r1, hq2, hf⟩ := bd1_at hf
  refine r_roV (As := [.int p1]) (rest := []) C (kX0_isSaying l g a_nw nw p1 r1 hq2) (cwV0 C (inr17 _ (List.mem_of_getElem? (i := 22) rfl)) mwX0_isSaying hdX0_isSaying ⟨Nat.le_of_ble_eq_true rfl, Nat.le_of_ble_eq_true rfl⟩) hK (w.1.sub [5, 6, 7, 8, 9, 10, 11, 12, 13, 14, 15] rfl) rfl rfl rfl hl.1 rfl (Nat.le_of_ble_eq_true rfl) ⟨Nat.zero_le _, Nat.zero_le _⟩ (dk_at dkX5_see 3 rfl) ?_
  refine lv_if_eq (tgt := 18) C.1 C.2.1 (dk_at dkX5_see 4 rfl) (by decide) (fun c3 => ?_) (fun c3 => ?_)
  · have hf := (if_pos c3).symm.trans hf
    refine lv_iconst (v := (-1)) C.1 C.2.1 (dk_at dkX5_see 8 rfl) (by decide) ?_
    cases hf
    exact fin _ _ _ _ _ (dk_at dkX5_see 9 rfl) rfl w
  · have hf := (if_neg c3).symm.trans hf
    refine lv_iload_n C.1 C.2.1 (dk_at dkX5_see 5 rfl) rfl (lv_at hl 2 rfl) ?_
    obtain ⟨r4, hq5, hf⟩ := bd1_at hf
    refine r_st (As := [.int p2]) (rest := []) C (kX3_isCell l p2 r4 hq5) (cwS0 C (inr19 _ (List.mem_of_getElem? (i := 19) rfl)) mwX3_isCell hdX3_isCell ⟨Nat.le_of_ble_eq_true rfl, Nat.le_of_ble_eq_true rfl⟩) rfl hl.1 rfl (Nat.le_of_ble_eq_true rfl) ⟨Nat.zero_le _, Nat.zero_le _⟩ (dk_at dkX5_see 6 rfl) ?_
    refine lv_if_ne (tgt := 20) C.1 C.2.1 (dk_at dkX5_see 7 rfl) (by decide) (fun c6 => ?_) (fun c6 => ?_)
    · have hf := (if_neg c6).symm.trans hf
      refine lv_aload_n C.1 C.2.1 (dk_at dkX5_see 10 rfl) rfl (lv_at hl 0 rfl) ?_
      refine r_get (v := .ref (a_nw 0)) C hK w.1 (fun w h => List.mem_cons_of_mem _ (inlX5 w h)) 0 rfl rfl 1 (by decide) (List.mem_cons_of_mem _ (inr1 _ (List.mem_of_getElem? (i := 19) rfl))) rfl (dk_at dkX5_see 11 rfl) ?_
      refine r_get (v := .int (cSe nw)) C hK w.1 (fun w h => List.mem_cons_of_mem _ (inlX0 w h)) 5 rfl rfl 8 (by decide) (List.mem_cons_of_mem _ (inr35 _ (List.mem_of_getElem? (i := 6) rfl))) rfl (dk_at dkX5_see 12 rfl) ?_
      refine lv_bipush (v := 6) C.1 C.2.1 (dk_at dkX5_see 13 rfl) (by decide) ?_
      refine lv_icmp_lt (tgt := 35) C.1 C.2.1 (dk_at dkX5_see 14 rfl) (by decide) (fun c7 => ?_) (fun c7 => ?_)
      · have hf := (if_pos c7).symm.trans hf
        refine lv_aload_n C.1 C.2.1 (dk_at dkX5_see 17 rfl) rfl (lv_at hl 0 rfl) ?_
        refine r_get (v := .ref (a_nw 0)) C hK w.1 (fun w h => List.mem_cons_of_mem _ (inlX5 w h)) 0 rfl rfl 1 (by decide) (List.mem_cons_of_mem _ (inr1 _ (List.mem_of_getElem? (i := 19) rfl))) rfl (dk_at dkX5_see 18 rfl) ?_
        refine r_get (v := .ref (a_nw 9)) C hK w.1 (fun w h => List.mem_cons_of_mem _ (inlX0 w h)) 5 rfl rfl 6 (by decide) (List.mem_cons_of_mem _ (inr35 _ (List.mem_of_getElem? (i := 7) rfl))) rfl (dk_at dkX5_see 19 rfl) ?_
        refine lv_aload_n C.1 C.2.1 (dk_at dkX5_see 20 rfl) rfl (lv_at hl 0 rfl) ?_
        refine r_get (v := .ref (a_nw 0)) C hK w.1 (fun w h => List.mem_cons_of_mem _ (inlX5 w h)) 0 rfl rfl 1 (by decide) (List.mem_cons_of_mem _ (inr1 _ (List.mem_of_getElem? (i := 19) rfl))) rfl (dk_at dkX5_see 21 rfl) ?_
        refine r_get (v := .int (cSe nw)) C hK w.1 (fun w h => List.mem_cons_of_mem _ (inlX0 w h)) 5 rfl rfl 8 (by decide) (List.mem_cons_of_mem _ (inr35 _ (List.mem_of_getElem? (i := 6) rfl))) rfl (dk_at dkX5_see 22 rfl) ?_
        refine lv_iload_n C.1 C.2.1 (dk_at dkX5_see 23 rfl) rfl (lv_at hl 1 rfl) ?_
        obtain ⟨h8, hf⟩ := gd_at hf
        refine r_iast (k := (cSe nw).toNatClampNeg) (f := (cSs nw)) C hK w 14 rfl h8 rfl (dk_at dkX5_see 24 rfl) (fun H locs w => ?_)
        obtain ⟨nw_9, enw_9⟩ : ∃ z : CT, z = cSs' nw (upd (cSs nw) ((cSe nw).toNatClampNeg) p1) := ⟨_, rfl⟩
        have hf := nm_at enw_9 hf
        have w : Wd g A Z.heap (wV g a_v a_rd a_nw a_tr a_da a_i0 a_i1 a_s0 a_s1 a_s2 a_s3 v ++ wC g a_nw nw_9) H locs := by rw [enw_9]; exact w
        refine lv_aload_n C.1 C.2.1 (dk_at dkX5_see 25 rfl) rfl (lv_at hl 0 rfl) ?_
        refine r_get (v := .ref (a_nw 0)) C hK w.1 (fun w h => List.mem_cons_of_mem _ (inlX5 w h)) 0 rfl rfl 1 (by decide) (List.mem_cons_of_mem _ (inr1 _ (List.mem_of_getElem? (i := 19) rfl))) rfl (dk_at dkX5_see 26 rfl) ?_
        refine r_get (v := .ref (a_nw 10)) C hK w.1 (fun w h => List.mem_cons_of_mem _ (inlX0 w h)) 5 rfl rfl 7 (by decide) (List.mem_cons_of_mem _ (inr35 _ (List.mem_of_getElem? (i := 8) rfl))) rfl (dk_at dkX5_see 27 rfl) ?_
        refine lv_aload_n C.1 C.2.1 (dk_at dkX5_see 28 rfl) rfl (lv_at hl 0 rfl) ?_
        refine r_get (v := .ref (a_nw 0)) C hK w.1 (fun w h => List.mem_cons_of_mem _ (inlX5 w h)) 0 rfl rfl 1 (by decide) (List.mem_cons_of_mem _ (inr1 _ (List.mem_of_getElem? (i := 19) rfl))) rfl (dk_at dkX5_see 29 rfl) ?_
        refine r_get (v := .int (cSe nw_9)) C hK w.1 (fun w h => List.mem_cons_of_mem _ (inlX0 w h)) 5 rfl rfl 8 (by decide) (List.mem_cons_of_mem _ (inr35 _ (List.mem_of_getElem? (i := 6) rfl))) rfl (dk_at dkX5_see 30 rfl) ?_
        refine lv_iload_n C.1 C.2.1 (dk_at dkX5_see 31 rfl) rfl (lv_at hl 2 rfl) ?_
        obtain ⟨r10, hq11, hf⟩ := bd1_at hf
        refine r_st (As := [.int p2]) (rest := [.int (cSe nw_9), .ref (a_nw 10)]) C (kX3_placeOf l p2 r10 hq11) (cwS0 C (inr19 _ (List.mem_of_getElem? (i := 20) rfl)) mwX3_placeOf hdX3_placeOf ⟨Nat.le_of_ble_eq_true rfl, Nat.le_of_ble_eq_true rfl⟩) rfl hl.1 rfl (Nat.le_of_ble_eq_true rfl) ⟨Nat.zero_le _, Nat.zero_le _⟩ (dk_at dkX5_see 32 rfl) ?_
        obtain ⟨h12, hf⟩ := gd_at hf
        refine r_iast (k := (cSe nw_9).toNatClampNeg) (f := (cSp nw_9)) C hK w 15 rfl h12 rfl (dk_at dkX5_see 33 rfl) (fun H locs w => ?_)
        obtain ⟨nw_13, enw_13⟩ : ∃ z : CT, z = cSp' nw_9 (upd (cSp nw_9) ((cSe nw_9).toNatClampNeg) r10) := ⟨_, rfl⟩
        have hf := nm_at enw_13 hf
        have w : Wd g A Z.heap (wV g a_v a_rd a_nw a_tr a_da a_i0 a_i1 a_s0 a_s1 a_s2 a_s3 v ++ wC g a_nw nw_13) H locs := by rw [enw_13]; exact w
        refine lv_aload_n C.1 C.2.1 (dk_at dkX5_see 34 rfl) rfl (lv_at hl 0 rfl) ?_
        refine r_get (v := .ref (a_nw 0)) C hK w.1 (fun w h => List.mem_cons_of_mem _ (inlX5 w h)) 0 rfl rfl 1 (by decide) (List.mem_cons_of_mem _ (inr1 _ (List.mem_of_getElem? (i := 19) rfl))) rfl (dk_at dkX5_see 35 rfl) ?_
        refine lv_dup C.1 C.2.1 (dk_at dkX5_see 36 rfl) rfl ?_
        refine r_get (v := .int (cSe nw_13)) C hK w.1 (fun w h => List.mem_cons_of_mem _ (inlX0 w h)) 5 rfl rfl 8 (by decide) (List.mem_cons_of_mem _ (inr35 _ (List.mem_of_getElem? (i := 6) rfl))) rfl (dk_at dkX5_see 37 rfl) ?_
        refine lv_iconst (v := 1) C.1 C.2.1 (dk_at dkX5_see 38 rfl) (by decide) ?_
        refine lv_iadd C.1 C.2.1 (dk_at dkX5_see 39 rfl) ?_
        refine lv_topi (fun x14 ex14 => ?_)
        have hf := nm_at ex14 hf
        refine r_put (v := .int x14) C hK w (fun w h => List.mem_cons_of_mem _ (inlX0 w h)) tyX0 tyX0_ok nmX0 5 rfl rfl 8 (by decide) (List.mem_cons_of_mem _ (inr35 _ (List.mem_of_getElem? (i := 6) rfl))) rfl rfl rfl (Nat.le_of_ble_eq_true rfl) (dk_at dkX5_see 40 rfl) (fun H locs w => ?_)
        obtain ⟨nw_15, enw_15⟩ : ∃ z : CT, z = cSe' nw_13 x14 := ⟨_, rfl⟩
        have hf := nm_at enw_15 hf
        have w : Wd g A Z.heap (wV g a_v a_rd a_nw a_tr a_da a_i0 a_i1 a_s0 a_s1 a_s2 a_s3 v ++ wC g a_nw nw_15) H locs := by rw [enw_15]; exact w
        refine lv_aload_n C.1 C.2.1 (dk_at dkX5_see 41 rfl) rfl (lv_at hl 0 rfl) ?_
        refine r_get (v := .ref (a_nw 0)) C hK w.1 (fun w h => List.mem_cons_of_mem _ (inlX5 w h)) 0 rfl rfl 1 (by decide) (List.mem_cons_of_mem _ (inr1 _ (List.mem_of_getElem? (i := 19) rfl))) rfl (dk_at dkX5_see 42 rfl) ?_
        refine r_get (v := .int (cSe nw_15)) C hK w.1 (fun w h => List.mem_cons_of_mem _ (inlX0 w h)) 5 rfl rfl 8 (by decide) (List.mem_cons_of_mem _ (inr35 _ (List.mem_of_getElem? (i := 6) rfl))) rfl (dk_at dkX5_see 43 rfl) ?_
        cases hf
        exact fin _ _ _ _ _ (dk_at dkX5_see 44 rfl) rfl w
      · have hf := (if_neg c7).symm.trans hf
        refine lv_bipush (v := (-3)) C.1 C.2.1 (dk_at dkX5_see 15 rfl) (by decide) ?_
        cases hf
        exact fin _ _ _ _ _ (dk_at dkX5_see 16 rfl) rfl w
    · have hf := (if_pos c6).symm.trans hf
      refine lv_iconst (v := (-1)) C.1 C.2.1 (dk_at dkX5_see 8 rfl) (by decide) ?_
      cases hf
      exact fin _ _ _ _ _ (dk_at dkX5_see 9 rfl) rfl w
-- X5.forget
abbrev tbX5_forget : List (Nat × Instr × Nat) := [(0, .iload_n 1, 1), (1, .ifCond .lt 14, 3), (4, .iload_n 1, 1), (5, .aload_n 0, 1), (6, .getfield 19, 3), (9, .getfield 209, 3), (12, .if_icmp .le 5, 3), (15, .iconst (-1), 1), (16, .ireturn, 1), (17, .aload_n 0, 1), (18, .getfield 19, 3), (21, .getfield 209, 3), (24, .istore_n 2, 1), (25, .aload_n 0, 1), (26, .getfield 19, 3), (29, .iload_n 1, 1), (30, .putfield 209, 3), (33, .iload_n 2, 1), (34, .ireturn, 1)]
theorem dkX5_forget : dk cX5_forget tbX5_forget := dk_of (by decide +kernel)
abbrev cdX5_forget : Cond := Cond.code yX5_forget cX5_forget 3 (some .int)
abbrev rmX5_forget : Room := { frames := 0, cells := 0, slots := 0, locals := 0 }
theorem mwX5_forget : Cond.instanceMethod yX5_forget ∈ wsL_law ∧ Cond.selects RX5 yX5_forget yX5_forget ∈ wsL_law ∧ Cond.initialized RX5 ∈ wsL_law ∧ cdX5_forget ∈ wsL_law := ⟨inr35 _ (List.mem_of_getElem? (i := 14) rfl), inr35 _ (List.mem_of_getElem? (i := 15) rfl), inr1 _ (List.mem_of_getElem? (i := 2) rfl), inr35 _ (List.mem_of_getElem? (i := 16) rfl)⟩
theorem hdX5_forget : yX5_forget.cls = RX5 ∧ yX5_forget.cls ≠ "java/lang/invoke/MethodHandle" ∧ yX5_forget.cls ≠ "java/lang/invoke/VarHandle" ∧ (parseMethodDescriptor yX5_forget.desc).map (fun d => d.parameters.length) = some 1 := by decide +kernel
set_option maxHeartbeats 4000000 in
set_option maxRecDepth 100000 in
theorem kX5_forget (l : Launch) (g : Gx) (sz : Nat) (a_v a_rd a_nw a_tr a_da a_i0 a_i1 a_s0 a_s1 a_s2 a_s3 : Nat → Nat) (v : VT) (nw : CT) (p1 : Int32) (res : Int32) (nw_o : CT) (hf : fX5_forget p1 v nw = some (res, nw_o)) : Met l yX5_forget (cdX5_forget :: wsL_law) rmX5_forget (va_Pc [.ref (a_v 0), .int p1] (RWp g sz (wV g a_v a_rd a_nw a_tr a_da a_i0 a_i1 a_s0 a_s1 a_s2 a_s3 v ++ wC g a_nw nw))) (va_Qi (fun x (_ : Unit) => x = res) (fun _ => RWq g (va_A (wV g a_v a_rd a_nw a_tr a_da a_i0 a_i1 a_s0 a_s1 a_s2 a_s3 v ++ wC g a_nw nw) sz) (wV g a_v a_rd a_nw a_tr a_da a_i0 a_i1 a_s0 a_s1 a_s2 a_s3 v ++ wC g a_nw nw_o)) (va_A (wV g a_v a_rd a_nw a_tr a_da a_i0 a_i1 a_s0 a_s1 a_s2 a_s3 v ++ wC g a_nw nw) sz)) 0 0 (va_A (wV g a_v a_rd a_nw a_tr a_da a_i0 a_i1 a_s0 a_s1 a_s2 a_s3 v ++ wC g a_nw nw) sz) := by
  refine Met_rwi (cc := cX5_forget) (maxL := 3) (by decide) rfl (Nat.le_of_ble_eq_true rfl) ?_
  intro P E Z Mi AR BE ME CO A Q C hK hA fin w ls hl
  have hl : lv_has ls 3 [(0, .ref (a_v 0)), (1, .int p1)] := hl
  unfold fX5_forget at hf
  refine lv_iload_n C.1 C.2.1 (dk_at dkX5_forget 0 rfl) rfl (lv_at hl 1 rfl) ?_
  refine lv_if_lt (tgt := 15) C.1 C.2.1 (dk_at dkX5_forget 1 rfl) (by decide) (fun c1 => ?_) (fun c1 => ?_)
  · have hf := (if_pos c1).symm.trans hf
    refine lv_iconst (v := (-1)) C.1 C.2.1 (dk_at dkX5_forget 7 rfl) (by decide) ?_
    cases hf
    exact fin _ _ _ _ _ (dk_at dkX5_forget 8 rfl) rfl w
  · have hf := (if_neg c1).symm.trans hf
    refine lv_iload_n C.1 C.2.1 (dk_at dkX5_forget 2 rfl) rfl (lv_at hl 1 rfl) ?_
    refine lv_aload_n C.1 C.2.1 (dk_at dkX5_forget 3 rfl) rfl (lv_at hl 0 rfl) ?_
    refine r_get (v := .ref (a_nw 0)) C hK w.1 (fun w h => List.mem_cons_of_mem _ (inlX5 w h)) 0 rfl rfl 1 (by decide) (List.mem_cons_of_mem _ (inr1 _ (List.mem_of_getElem? (i := 19) rfl))) rfl (dk_at dkX5_forget 4 rfl) ?_
    refine r_get (v := .int (cSe nw)) C hK w.1 (fun w h => List.mem_cons_of_mem _ (inlX0 w h)) 5 rfl rfl 8 (by decide) (List.mem_cons_of_mem _ (inr35 _ (List.mem_of_getElem? (i := 6) rfl))) rfl (dk_at dkX5_forget 5 rfl) ?_
    refine lv_icmp_le (tgt := 17) C.1 C.2.1 (dk_at dkX5_forget 6 rfl) (by decide) (fun c2 => ?_) (fun c2 => ?_)
    · have hf := (if_pos c2).symm.trans hf
      refine lv_aload_n C.1 C.2.1 (dk_at dkX5_forget 9 rfl) rfl (lv_at hl 0 rfl) ?_
      refine r_get (v := .ref (a_nw 0)) C hK w.1 (fun w h => List.mem_cons_of_mem _ (inlX5 w h)) 0 rfl rfl 1 (by decide) (List.mem_cons_of_mem _ (inr1 _ (List.mem_of_getElem? (i := 19) rfl))) rfl (dk_at dkX5_forget 10 rfl) ?_
      refine r_get (v := .int (cSe nw)) C hK w.1 (fun w h => List.mem_cons_of_mem _ (inlX0 w h)) 5 rfl rfl 8 (by decide) (List.mem_cons_of_mem _ (inr35 _ (List.mem_of_getElem? (i := 6) rfl))) rfl (dk_at dkX5_forget 11 rfl) ?_
      refine lv_istore_n (lv' := [(2, .int (cSe nw)), (0, .ref (a_v 0)), (1, .int p1)]) C.1 C.2.1 (dk_at dkX5_forget 12 rfl) rfl hl (by decide) rfl (fun ls hl => ?_)
      refine lv_aload_n C.1 C.2.1 (dk_at dkX5_forget 13 rfl) rfl (lv_at hl 1 rfl) ?_
      refine r_get (v := .ref (a_nw 0)) C hK w.1 (fun w h => List.mem_cons_of_mem _ (inlX5 w h)) 0 rfl rfl 1 (by decide) (List.mem_cons_of_mem _ (inr1 _ (List.mem_of_getElem? (i := 19) rfl))) rfl (dk_at dkX5_forget 14 rfl) ?_
      refine lv_iload_n C.1 C.2.1 (dk_at dkX5_forget 15 rfl) rfl (lv_at hl 2 rfl) ?_
      refine r_put (v := .int p1) C hK w (fun w h => List.mem_cons_of_mem _ (inlX0 w h)) tyX0 tyX0_ok nmX0 5 rfl rfl 8 (by decide) (List.mem_cons_of_mem _ (inr35 _ (List.mem_of_getElem? (i := 6) rfl))) rfl rfl rfl (Nat.le_of_ble_eq_true rfl) (dk_at dkX5_forget 16 rfl) (fun H locs w => ?_)
      obtain ⟨nw_3, enw_3⟩ : ∃ z : CT, z = cSe' nw p1 := ⟨_, rfl⟩
      have hf := nm_at enw_3 hf
      have w : Wd g A Z.heap (wV g a_v a_rd a_nw a_tr a_da a_i0 a_i1 a_s0 a_s1 a_s2 a_s3 v ++ wC g a_nw nw_3) H locs := by rw [enw_3]; exact w
      refine lv_iload_n C.1 C.2.1 (dk_at dkX5_forget 17 rfl) rfl (lv_at hl 0 rfl) ?_
      cases hf
      exact fin _ _ _ _ _ (dk_at dkX5_forget 18 rfl) rfl w
    · have hf := (if_neg c2).symm.trans hf
      refine lv_iconst (v := (-1)) C.1 C.2.1 (dk_at dkX5_forget 7 rfl) (by decide) ?_
      cases hf
      exact fin _ _ _ _ _ (dk_at dkX5_forget 8 rfl) rfl w
-- X5.asSeenBy
abbrev tbX5_asSeenBy : List (Nat × Instr × Nat) := [(0, .iconst 0, 1), (1, .istore 5, 2), (3, .aload_n 0, 1), (4, .getfield 23, 3), (7, .aload_n 0, 1), (8, .getfield 19, 3), (11, .invokevirtual 73, 3), (14, .iload_n 3, 1), (15, .istore 6, 2), (17, .iload 6, 2), (19, .iload 4, 2), (21, .if_icmp .gt 56, 3), (24, .aload_n 0, 1), (25, .getfield 23, 3), (28, .getfield 100, 3), (31, .iload_n 1, 1), (32, .aaload, 1), (33, .iload_n 2, 1), (34, .iload 6, 2), (36, .iastore, 1), (37, .aload_n 0, 1), (38, .getfield 29, 3), (41, .aload_n 0, 1), (42, .getfield 23, 3), (45, .invokevirtual 140, 3), (48, .aload_n 0, 1), (49, .getfield 29, 3), (52, .aload_n 0, 1), (53, .getfield 23, 3), (56, .invokevirtual 222, 3), (59, .ifCond .eq 12, 3), (62, .iload 5, 2), (64, .iconst 1, 1), (65, .iload 6, 2), (67, .ishl, 1), (68, .ior, 1), (69, .istore 5, 2), (71, .iinc 6 1, 3), (74, .goto (-57), 3), (77, .iload 5, 2), (79, .ireturn, 1)]
theorem dkX5_asSeenBy : dk cX5_asSeenBy tbX5_asSeenBy := dk_of (by decide +kernel)
abbrev cdX5_asSeenBy : Cond := Cond.code yX5_asSeenBy cX5_asSeenBy 7 (some .int)
abbrev rmX5_asSeenBy : Room := { frames := 4, cells := 0, slots := 0, locals := 93 }
theorem mwX5_asSeenBy : Cond.instanceMethod yX5_asSeenBy ∈ wsL_law ∧ Cond.selects RX5 yX5_asSeenBy yX5_asSeenBy ∈ wsL_law ∧ Cond.initialized RX5 ∈ wsL_law ∧ cdX5_asSeenBy ∈ wsL_law := ⟨inr36 _ (List.mem_of_getElem? (i := 2) rfl), inr36 _ (List.mem_of_getElem? (i := 3) rfl), inr1 _ (List.mem_of_getElem? (i := 2) rfl), inr36 _ (List.mem_of_getElem? (i := 4) rfl)⟩
theorem hdX5_asSeenBy : yX5_asSeenBy.cls = RX5 ∧ yX5_asSeenBy.cls ≠ "java/lang/invoke/MethodHandle" ∧ yX5_asSeenBy.cls ≠ "java/lang/invoke/VarHandle" ∧ (parseMethodDescriptor yX5_asSeenBy.desc).map (fun d => d.parameters.length) = some 4 := by decide +kernel
set_option maxHeartbeats 4000000 in
set_option maxRecDepth 100000 in
theorem kX5_asSeenBy (l : Launch) (g : Gx) (sz : Nat) (a_v a_rd a_nw a_tr a_da a_i0 a_i1 a_s0 a_s1 a_s2 a_s3 : Nat → Nat) (v : VT) (nw : CT) (tr : CT) (da : DT) (p1 : Int32) (p2 : Int32) (p3 : Int32) (p4 : Int32) (res : Int32) (tr_o : CT) (da_o : DT) (hf : fX5_asSeenBy p1 p2 p3 p4 v nw tr da = some (res, tr_o, da_o)) : Met l yX5_asSeenBy (cdX5_asSeenBy :: wsL_law) rmX5_asSeenBy (va_Pc [.ref (a_v 0), .int p1, .int p2, .int p3, .int p4] (RWp g sz (wV g a_v a_rd a_nw a_tr a_da a_i0 a_i1 a_s0 a_s1 a_s2 a_s3 v ++ wC g a_nw nw ++ wC g a_tr tr ++ wD g a_da da))) (va_Qi (fun x (_ : Unit) => x = res) (fun _ => RWq g (va_A (wV g a_v a_rd a_nw a_tr a_da a_i0 a_i1 a_s0 a_s1 a_s2 a_s3 v ++ wC g a_nw nw ++ wC g a_tr tr ++ wD g a_da da) sz) (wV g a_v a_rd a_nw a_tr a_da a_i0 a_i1 a_s0 a_s1 a_s2 a_s3 v ++ wC g a_nw nw ++ wC g a_tr tr_o ++ wD g a_da da_o)) (va_A (wV g a_v a_rd a_nw a_tr a_da a_i0 a_i1 a_s0 a_s1 a_s2 a_s3 v ++ wC g a_nw nw ++ wC g a_tr tr ++ wD g a_da da) sz)) 0 0 (va_A (wV g a_v a_rd a_nw a_tr a_da a_i0 a_i1 a_s0 a_s1 a_s2 a_s3 v ++ wC g a_nw nw ++ wC g a_tr tr ++ wD g a_da da) sz) := by
  refine Met_rwi (cc := cX5_asSeenBy) (maxL := 7) (by decide) rfl (Nat.le_of_ble_eq_true rfl) ?_
  intro P E Z Mi AR BE ME CO A Q C hK hA fin w ls hl
  have hl : lv_has ls 7 [(0, .ref (a_v 0)), (1, .int p1), (2, .int p2), (3, .int p3), (4, .int p4)] := hl
  unfold fX5_asSeenBy at hf
  refine lv_iconst (v := 0) C.1 C.2.1 (dk_at dkX5_asSeenBy 0 rfl) (by decide) ?_
  refine lv_istore (lv' := [(5, .int 0), (0, .ref (a_v 0)), (1, .int p1), (2, .int p2), (3, .int p3), (4, .int p4)]) C.1 C.2.1 (dk_at dkX5_asSeenBy 1 rfl) hl (by decide) rfl (fun ls hl => ?_)
  refine lv_aload_n C.1 C.2.1 (dk_at dkX5_asSeenBy 2 rfl) rfl (lv_at hl 1 rfl) ?_
  refine r_get (v := .ref (a_tr 0)) C hK w.1 (fun w h => List.mem_cons_of_mem _ (inlX5 w h)) 0 rfl rfl 2 (by decide) (List.mem_cons_of_mem _ (inr1 _ (List.mem_of_getElem? (i := 20) rfl))) rfl (dk_at dkX5_asSeenBy 3 rfl) ?_
  refine lv_aload_n C.1 C.2.1 (dk_at dkX5_asSeenBy 4 rfl) rfl (lv_at hl 1 rfl) ?_
  refine r_get (v := .ref (a_nw 0)) C hK w.1 (fun w h => List.mem_cons_of_mem _ (inlX5 w h)) 0 rfl rfl 1 (by decide) (List.mem_cons_of_mem _ (inr1 _ (List.mem_of_getElem? (i := 19) rfl))) rfl (dk_at dkX5_asSeenBy 5 rfl) ?_
  obtain ⟨tr_1, hq2, hf⟩ := bd1_at hf
  refine r_rwv (As := [.ref (a_nw 0)]) (rest := []) (wr := wV g a_v a_rd a_nw a_tr a_da a_i0 a_i1 a_s0 a_s1 a_s2 a_s3 v ++ wD g a_da da) (ws' := wV g a_v a_rd a_nw a_tr a_da a_i0 a_i1 a_s0 a_s1 a_s2 a_s3 v ++ wC g a_nw nw ++ wC g a_tr tr_1 ++ wD g a_da da) C (kX0_copyTo l g _ a_tr a_nw tr nw tr_1 hq2) (cwV0 C (inr12 _ (List.mem_of_getElem? (i := 6) rfl)) mwX0_copyFrom hdX0_copyFrom ⟨Nat.le_of_ble_eq_true rfl, Nat.le_of_ble_eq_true rfl⟩) hK w hA [16, 17, 18, 19, 20, 21, 22, 23, 24, 25, 26, 5, 6, 7, 8, 9, 10, 11, 12, 13, 14, 15] [0, 1, 2, 3, 4, 27, 28, 29, 30, 31, 32] [0, 1, 2, 3, 4, 22, 23, 24, 25, 26, 27, 28, 29, 30, 31, 32, 11, 12, 13, 14, 15, 16, 17, 18, 19, 20, 21, 5, 6, 7, 8, 9, 10] (by decide) rfl rfl (by decide) (by decide) rfl (by decide) rfl rfl rfl hl.1 rfl (Nat.le_of_ble_eq_true rfl) ⟨Nat.zero_le _, Nat.zero_le _⟩ (dk_at dkX5_asSeenBy 6 rfl) (fun H locs w => ?_)
  refine lv_iload_n C.1 C.2.1 (dk_at dkX5_asSeenBy 7 rfl) rfl (lv_at hl 4 rfl) ?_
  refine lv_istore (lv' := [(6, .int p3), (5, .int 0), (0, .ref (a_v 0)), (1, .int p1), (2, .int p2), (3, .int p3), (4, .int p4)]) C.1 C.2.1 (dk_at dkX5_asSeenBy 8 rfl) hl (by decide) rfl (fun ls hl => ?_)
  have L7 : ∀ (K : Int32 → Int32 → CT → DT → Option (Int32 × CT × DT)), (∀ (v3 : Int32) (v4 : Int32) (tr_5 : CT) (da_6 : DT) (H : Heap) (locs : List Loc) (ls : Array Slot), Wd g A Z.heap (wV g a_v a_rd a_nw a_tr a_da a_i0 a_i1 a_s0 a_s1 a_s2 a_s3 v ++ wC g a_nw nw ++ wC g a_tr tr_5 ++ wD g a_da da_6) H locs → lv_has ls 7 [(5, .int v4)] → K v3 v4 tr_5 da_6 = some (res, tr_o, da_o) → W P l E rmX5_asSeenBy Z Mi AR BE ME CO H locs 0 0 Q (F0 Mi 77 ls [])) → ∀ (n : Nat), ∀ (v3 : Int32) (v4 : Int32) (tr_5 : CT) (da_6 : DT) (H : Heap) (locs : List Loc) (ls : Array Slot), Wd g A Z.heap (wV g a_v a_rd a_nw a_tr a_da a_i0 a_i1 a_s0 a_s1 a_s2 a_s3 v ++ wC g a_nw nw ++ wC g a_tr tr_5 ++ wD g a_da da_6) H locs → lv_has ls 7 [(6, .int v3), (5, .int v4), (0, .ref (a_v 0)), (1, .int p1), (2, .int p2), (4, .int p4)] → fX5_asSeenBy_L17 p1 p2 p4 K n v3 v4 tr_5 da_6 = some (res, tr_o, da_o) → W P l E rmX5_asSeenBy Z Mi AR BE ME CO H locs 0 0 Q (F0 Mi 17 ls []) := by
    intro K hKe n
    induction n with
    | zero => intro v3 v4 tr_5 da_6 H locs ls w hl hf; cases hf
    | succ n ih =>
      intro v3 v4 tr_5 da_6 H locs ls w hl hf
      rw [fX5_asSeenBy_L17] at hf
      refine lv_iload C.1 C.2.1 (dk_at dkX5_asSeenBy 9 rfl) (lv_at hl 0 rfl) ?_
      refine lv_iload C.1 C.2.1 (dk_at dkX5_asSeenBy 10 rfl) (lv_at hl 5 rfl) ?_
      refine lv_icmp_gt (tgt := 77) C.1 C.2.1 (dk_at dkX5_asSeenBy 11 rfl) (by decide) (fun c8 => ?_) (fun c8 => ?_)
      · have hf := (if_pos c8).symm.trans hf
        exact hKe v3 v4 tr_5 da_6 _ _ _ w (lv_sub hl [1] rfl) hf
      · have hf := (if_neg c8).symm.trans hf
        refine lv_aload_n C.1 C.2.1 (dk_at dkX5_asSeenBy 12 rfl) rfl (lv_at hl 2 rfl) ?_
        refine r_get (v := .ref (a_tr 0)) C hK w.1 (fun w h => List.mem_cons_of_mem _ (inlX5 w h)) 0 rfl rfl 2 (by decide) (List.mem_cons_of_mem _ (inr1 _ (List.mem_of_getElem? (i := 20) rfl))) rfl (dk_at dkX5_asSeenBy 13 rfl) ?_
        refine r_get (v := .ref (a_tr 2)) C hK w.1 (fun w h => List.mem_cons_of_mem _ (inlX0 w h)) 16 rfl rfl 2 (by decide) (List.mem_cons_of_mem _ (inr17 _ (List.mem_of_getElem? (i := 21) rfl))) rfl (dk_at dkX5_asSeenBy 14 rfl) ?_
        refine lv_iload_n C.1 C.2.1 (dk_at dkX5_asSeenBy 15 rfl) rfl (lv_at hl 3 rfl) ?_
        obtain ⟨h9, hf⟩ := gd_at hf
        refine r_aldr (b := a_tr (3 + p1.toNatClampNeg)) C hK w.1 18 rfl h9 rfl (dk_at dkX5_asSeenBy 16 rfl) ?_
        have h10 := in_lt h9
        refine lv_iload_n C.1 C.2.1 (dk_at dkX5_asSeenBy 17 rfl) rfl (lv_at hl 4 rfl) ?_
        refine lv_iload C.1 C.2.1 (dk_at dkX5_asSeenBy 18 rfl) (lv_at hl 0 rfl) ?_
        obtain ⟨h11, hf⟩ := gd_at hf
        refine r_iast (k := p2.toNatClampNeg) (a := a_tr (3 + p1.toNatClampNeg)) (n := 5) (f := cTo tr_5 p1.toNatClampNeg) C hK w (16 + (3 + p1.toNatClampNeg)) (by rcases lt5 h10 with h5 | h5 | h5 | h5 | h5 <;> rw [h5] <;> rfl) h11 rfl (dk_at dkX5_asSeenBy 19 rfl) (fun H locs w => ?_)
        obtain ⟨tr_12, etr_12⟩ : ∃ z : CT, z = cTo' tr_5 (va_up (cTo tr_5) p1.toNatClampNeg (upd (cTo tr_5 p1.toNatClampNeg) p2.toNatClampNeg v3)) := ⟨_, rfl⟩
        have hf := nm_at etr_12 hf
        have w : Wd g A Z.heap (wV g a_v a_rd a_nw a_tr a_da a_i0 a_i1 a_s0 a_s1 a_s2 a_s3 v ++ wC g a_nw nw ++ wC g a_tr tr_12 ++ wD g a_da da_6) H locs := by rw [etr_12]; rcases lt5 h10 with h5 | h5 | h5 | h5 | h5 <;> (rw [h5] at w; rw [h5]; exact w)
        refine lv_aload_n C.1 C.2.1 (dk_at dkX5_asSeenBy 20 rfl) rfl (lv_at hl 2 rfl) ?_
        refine r_get (v := .ref (a_da 0)) C hK w.1 (fun w h => List.mem_cons_of_mem _ (inlX5 w h)) 0 rfl rfl 3 (by decide) (List.mem_cons_of_mem _ (inr2 _ (List.mem_of_getElem? (i := 0) rfl))) rfl (dk_at dkX5_asSeenBy 21 rfl) ?_
        refine lv_aload_n C.1 C.2.1 (dk_at dkX5_asSeenBy 22 rfl) rfl (lv_at hl 2 rfl) ?_
        refine r_get (v := .ref (a_tr 0)) C hK w.1 (fun w h => List.mem_cons_of_mem _ (inlX5 w h)) 0 rfl rfl 2 (by decide) (List.mem_cons_of_mem _ (inr1 _ (List.mem_of_getElem? (i := 20) rfl))) rfl (dk_at dkX5_asSeenBy 23 rfl) ?_
        obtain ⟨da_13, hq14, hf⟩ := bd1_at hf
        refine r_rwv (As := [.ref (a_tr 0)]) (rest := []) (wr := wV g a_v a_rd a_nw a_tr a_da a_i0 a_i1 a_s0 a_s1 a_s2 a_s3 v ++ wC g a_nw nw) (ws' := wV g a_v a_rd a_nw a_tr a_da a_i0 a_i1 a_s0 a_s1 a_s2 a_s3 v ++ wC g a_nw nw ++ wC g a_tr tr_12 ++ wD g a_da da_13) C (kX1_pass l g _ a_da a_tr da_6 tr_12 da_13 hq14) (cwV0 C (inr23 _ (List.mem_of_getElem? (i := 7) rfl)) mwX1_pass hdX1_pass ⟨Nat.le_of_ble_eq_true rfl, Nat.le_of_ble_eq_true rfl⟩) hK w hA [27, 28, 29, 30, 31, 32, 16, 17, 18, 19, 20, 21, 22, 23, 24, 25, 26] [0, 1, 2, 3, 4, 5, 6, 7, 8, 9, 10, 11, 12, 13, 14, 15] [0, 1, 2, 3, 4, 5, 6, 7, 8, 9, 10, 11, 12, 13, 14, 15, 22, 23, 24, 25, 26, 27, 28, 29, 30, 31, 32, 16, 17, 18, 19, 20, 21] (by decide) rfl rfl (by decide) (by decide) rfl (by decide) rfl rfl rfl hl.1 rfl (Nat.le_of_ble_eq_true rfl) ⟨Nat.zero_le _, Nat.zero_le _⟩ (dk_at dkX5_asSeenBy 24 rfl) (fun H locs w => ?_)
        refine lv_aload_n C.1 C.2.1 (dk_at dkX5_asSeenBy 25 rfl) rfl (lv_at hl 2 rfl) ?_
        refine r_get (v := .ref (a_da 0)) C hK w.1 (fun w h => List.mem_cons_of_mem _ (inlX5 w h)) 0 rfl rfl 3 (by decide) (List.mem_cons_of_mem _ (inr2 _ (List.mem_of_getElem? (i := 0) rfl))) rfl (dk_at dkX5_asSeenBy 26 rfl) ?_
        refine lv_aload_n C.1 C.2.1 (dk_at dkX5_asSeenBy 27 rfl) rfl (lv_at hl 2 rfl) ?_
        refine r_get (v := .ref (a_tr 0)) C hK w.1 (fun w h => List.mem_cons_of_mem _ (inlX5 w h)) 0 rfl rfl 2 (by decide) (List.mem_cons_of_mem _ (inr1 _ (List.mem_of_getElem? (i := 20) rfl))) rfl (dk_at dkX5_asSeenBy 28 rfl) ?_
        obtain ⟨r15, hq16, hf⟩ := bd1_at hf
        refine r_roV (As := [.ref (a_tr 0)]) (rest := []) C (kX1_isAsSeen l g a_da a_tr da_13 tr_12 r15 hq16) (cwV0 C (inr36 _ (List.mem_of_getElem? (i := 5) rfl)) mwX1_isAsSeen hdX1_isAsSeen ⟨Nat.le_of_ble_eq_true rfl, Nat.le_of_ble_eq_true rfl⟩) hK (w.1.sub [27, 28, 29, 30, 31, 32, 16, 17, 18, 19, 20, 21, 22, 23, 24, 25, 26] rfl) rfl rfl rfl hl.1 rfl (Nat.le_of_ble_eq_true rfl) ⟨Nat.zero_le _, Nat.zero_le _⟩ (dk_at dkX5_asSeenBy 29 rfl) ?_
        refine lv_if_eq (tgt := 71) C.1 C.2.1 (dk_at dkX5_asSeenBy 30 rfl) (by decide) (fun c17 => ?_) (fun c17 => ?_)
        · have hf := (if_pos c17).symm.trans hf
          obtain ⟨x18, ex18⟩ : ∃ z : Int32, z = v3 + 1 := ⟨_, rfl⟩
          have hf := nm_at ex18 hf
          refine lv_iinc (v := x18) (lv' := [(6, .int x18), (5, .int v4), (0, .ref (a_v 0)), (1, .int p1), (2, .int p2), (4, .int p4)]) C.1 C.2.1 (dk_at dkX5_asSeenBy 37 rfl) hl (k := 0) rfl (by rw [ex18]; rfl) (by decide) rfl (fun ls hl => ?_)
          refine lv_goto (tgt := 17) C.1 C.2.1 (dk_at dkX5_asSeenBy 38 rfl) (by decide) ?_
          exact ih x18 v4 tr_12 da_13 _ _ _ w (lv_sub hl [0, 1, 2, 3, 4, 5] rfl) hf
        · have hf := (if_neg c17).symm.trans hf
          refine lv_iload C.1 C.2.1 (dk_at dkX5_asSeenBy 31 rfl) (lv_at hl 1 rfl) ?_
          refine lv_iconst (v := 1) C.1 C.2.1 (dk_at dkX5_asSeenBy 32 rfl) (by decide) ?_
          refine lv_iload C.1 C.2.1 (dk_at dkX5_asSeenBy 33 rfl) (lv_at hl 0 rfl) ?_
          refine lv_ishl C.1 C.2.1 (dk_at dkX5_asSeenBy 34 rfl) ?_
          refine lv_ior C.1 C.2.1 (dk_at dkX5_asSeenBy 35 rfl) ?_
          refine lv_topi (fun x19 ex19 => ?_)
          have hf := nm_at ex19 hf
          refine lv_istore (lv' := [(5, .int x19), (6, .int v3), (0, .ref (a_v 0)), (1, .int p1), (2, .int p2), (4, .int p4)]) C.1 C.2.1 (dk_at dkX5_asSeenBy 36 rfl) hl (by decide) rfl (fun ls hl => ?_)
          obtain ⟨x20, ex20⟩ : ∃ z : Int32, z = v3 + 1 := ⟨_, rfl⟩
          have hf := nm_at ex20 hf
          refine lv_iinc (v := x20) (lv' := [(6, .int x20), (5, .int x19), (0, .ref (a_v 0)), (1, .int p1), (2, .int p2), (4, .int p4)]) C.1 C.2.1 (dk_at dkX5_asSeenBy 37 rfl) hl (k := 1) rfl (by rw [ex20]; rfl) (by decide) rfl (fun ls hl => ?_)
          refine lv_goto (tgt := 17) C.1 C.2.1 (dk_at dkX5_asSeenBy 38 rfl) (by decide) ?_
          exact ih x20 x19 tr_12 da_13 _ _ _ w (lv_sub hl [0, 1, 2, 3, 4, 5] rfl) hf
  refine L7 _ ?_ 4096 p3 0 tr_1 da _ _ _ w (lv_sub hl [0, 1, 2, 3, 4, 6] rfl) hf
  clear hf
  intro v3 v4 tr_5 da_6 H locs ls w hl hf
  refine lv_iload C.1 C.2.1 (dk_at dkX5_asSeenBy 39 rfl) (lv_at hl 0 rfl) ?_
  cases hf
  exact fin _ _ _ _ _ (dk_at dkX5_asSeenBy 40 rfl) rfl w
-- X5.kinds
abbrev tbX5_kinds : List (Nat × Instr × Nat) := [(0, .aload_n 0, 1), (1, .getfield 19, 3), (4, .iload_n 1, 1), (5, .invokevirtual 96, 3), (8, .ifCond .eq 14, 3), (11, .aload_n 0, 1), (12, .iload_n 1, 1), (13, .iconst 0, 1), (14, .iconst 0, 1), (15, .iconst 3, 1), (16, .invokevirtual 218, 3), (19, .goto 4, 3), (22, .iconst (-1), 1), (23, .ireturn, 1)]
theorem dkX5_kinds : dk cX5_kinds tbX5_kinds := dk_of (by decide +kernel)
abbrev cdX5_kinds : Cond := Cond.code yX5_kinds cX5_kinds 2 (some .int)
abbrev rmX5_kinds : Room := { frames := 5, cells := 0, slots := 0, locals := 119 }
theorem mwX5_kinds : Cond.instanceMethod yX5_kinds ∈ wsL_law ∧ Cond.selects RX5 yX5_kinds yX5_kinds ∈ wsL_law ∧ Cond.initialized RX5 ∈ wsL_law ∧ cdX5_kinds ∈ wsL_law := ⟨inr35 _ (List.mem_of_getElem? (i := 22) rfl), inr35 _ (List.mem_of_getElem? (i := 23) rfl), inr1 _ (List.mem_of_getElem? (i := 2) rfl), inr36 _ (List.mem_of_getElem? (i := 0) rfl)⟩
theorem hdX5_kinds : yX5_kinds.cls = RX5 ∧ yX5_kinds.cls ≠ "java/lang/invoke/MethodHandle" ∧ yX5_kinds.cls ≠ "java/lang/invoke/VarHandle" ∧ (parseMethodDescriptor yX5_kinds.desc).map (fun d => d.parameters.length) = some 1 := by decide +kernel
set_option maxHeartbeats 4000000 in
set_option maxRecDepth 100000 in
theorem kX5_kinds (l : Launch) (g : Gx) (sz : Nat) (a_v a_rd a_nw a_tr a_da a_i0 a_i1 a_s0 a_s1 a_s2 a_s3 : Nat → Nat) (v : VT) (nw : CT) (tr : CT) (da : DT) (p1 : Int32) (res : Int32) (tr_o : CT) (da_o : DT) (hf : fX5_kinds p1 v nw tr da = some (res, tr_o, da_o)) : Met l yX5_kinds (cdX5_kinds :: wsL_law) rmX5_kinds (va_Pc [.ref (a_v 0), .int p1] (RWp g sz (wV g a_v a_rd a_nw a_tr a_da a_i0 a_i1 a_s0 a_s1 a_s2 a_s3 v ++ wC g a_nw nw ++ wC g a_tr tr ++ wD g a_da da))) (va_Qi (fun x (_ : Unit) => x = res) (fun _ => RWq g (va_A (wV g a_v a_rd a_nw a_tr a_da a_i0 a_i1 a_s0 a_s1 a_s2 a_s3 v ++ wC g a_nw nw ++ wC g a_tr tr ++ wD g a_da da) sz) (wV g a_v a_rd a_nw a_tr a_da a_i0 a_i1 a_s0 a_s1 a_s2 a_s3 v ++ wC g a_nw nw ++ wC g a_tr tr_o ++ wD g a_da da_o)) (va_A (wV g a_v a_rd a_nw a_tr a_da a_i0 a_i1 a_s0 a_s1 a_s2 a_s3 v ++ wC g a_nw nw ++ wC g a_tr tr ++ wD g a_da da) sz)) 0 0 (va_A (wV g a_v a_rd a_nw a_tr a_da a_i0 a_i1 a_s0 a_s1 a_s2 a_s3 v ++ wC g a_nw nw ++ wC g a_tr tr ++ wD g a_da da) sz) := by
  refine Met_rwi (cc := cX5_kinds) (maxL := 2) (by decide) rfl (Nat.le_of_ble_eq_true rfl) ?_
  intro P E Z Mi AR BE ME CO A Q C hK hA fin w ls hl
  have hl : lv_has ls 2 [(0, .ref (a_v 0)), (1, .int p1)] := hl
  unfold fX5_kinds at hf
  refine lv_aload_n C.1 C.2.1 (dk_at dkX5_kinds 0 rfl) rfl (lv_at hl 0 rfl) ?_
  refine r_get (v := .ref (a_nw 0)) C hK w.1 (fun w h => List.mem_cons_of_mem _ (inlX5 w h)) 0 rfl rfl 1 (by decide) (List.mem_cons_of_mem _ (inr1 _ (List.mem_of_getElem? (i := 19) rfl))) rfl (dk_at dkX5_kinds 1 rfl) ?_
  refine lv_iload_n C.1 C.2.1 (dk_at dkX5_kinds 2 rfl) rfl (lv_at hl 1 rfl) ?_
  obtain ⟨r1, hq2, hf⟩ := bd1_at hf
  refine r_roV (As := [.int p1]) (rest := []) C (kX0_isSaying l g a_nw nw p1 r1 hq2) (cwV0 C (inr17 _ (List.mem_of_getElem? (i := 22) rfl)) mwX0_isSaying hdX0_isSaying ⟨Nat.le_of_ble_eq_true rfl, Nat.le_of_ble_eq_true rfl⟩) hK (w.1.sub [5, 6, 7, 8, 9, 10, 11, 12, 13, 14, 15] rfl) rfl rfl rfl hl.1 rfl (Nat.le_of_ble_eq_true rfl) ⟨Nat.zero_le _, Nat.zero_le _⟩ (dk_at dkX5_kinds 3 rfl) ?_
  refine lv_if_eq (tgt := 22) C.1 C.2.1 (dk_at dkX5_kinds 4 rfl) (by decide) (fun c3 => ?_) (fun c3 => ?_)
  · have hf := (if_pos c3).symm.trans hf
    refine lv_iconst (v := (-1)) C.1 C.2.1 (dk_at dkX5_kinds 12 rfl) (by decide) ?_
    cases hf
    exact fin _ _ _ _ _ (dk_at dkX5_kinds 13 rfl) rfl w
  · have hf := (if_neg c3).symm.trans hf
    refine lv_aload_n C.1 C.2.1 (dk_at dkX5_kinds 5 rfl) rfl (lv_at hl 0 rfl) ?_
    refine lv_iload_n C.1 C.2.1 (dk_at dkX5_kinds 6 rfl) rfl (lv_at hl 1 rfl) ?_
    refine lv_iconst (v := 0) C.1 C.2.1 (dk_at dkX5_kinds 7 rfl) (by decide) ?_
    refine lv_iconst (v := 0) C.1 C.2.1 (dk_at dkX5_kinds 8 rfl) (by decide) ?_
    refine lv_iconst (v := 3) C.1 C.2.1 (dk_at dkX5_kinds 9 rfl) (by decide) ?_
    obtain ⟨r4, tr_5, da_6, hq7, hf⟩ := bd3_at hf
    refine r_rwi (As := [.int p1, .int 0, .int 0, .int 3]) (rest := []) (wr := []) (ws' := wV g a_v a_rd a_nw a_tr a_da a_i0 a_i1 a_s0 a_s1 a_s2 a_s3 v ++ wC g a_nw nw ++ wC g a_tr tr_5 ++ wD g a_da da_6) C (kX5_asSeenBy l g _ a_v a_rd a_nw a_tr a_da a_i0 a_i1 a_s0 a_s1 a_s2 a_s3 v nw tr da p1 0 0 3 r4 tr_5 da_6 hq7) (cwV0 C (inr36 _ (List.mem_of_getElem? (i := 1) rfl)) mwX5_asSeenBy hdX5_asSeenBy ⟨Nat.le_of_ble_eq_true rfl, Nat.le_of_ble_eq_true rfl⟩) hK w hA [0, 1, 2, 3, 4, 5, 6, 7, 8, 9, 10, 11, 12, 13, 14, 15, 16, 17, 18, 19, 20, 21, 22, 23, 24, 25, 26, 27, 28, 29, 30, 31, 32] [] [0, 1, 2, 3, 4, 5, 6, 7, 8, 9, 10, 11, 12, 13, 14, 15, 16, 17, 18, 19, 20, 21, 22, 23, 24, 25, 26, 27, 28, 29, 30, 31, 32] (by decide) rfl rfl (by decide) (by decide) rfl (by decide) rfl rfl rfl hl.1 rfl (Nat.le_of_ble_eq_true rfl) ⟨Nat.zero_le _, Nat.zero_le _⟩ (dk_at dkX5_kinds 10 rfl) (fun H locs w => ?_)
    refine lv_goto (tgt := 23) C.1 C.2.1 (dk_at dkX5_kinds 11 rfl) (by decide) ?_
    cases hf
    exact fin _ _ _ _ _ (dk_at dkX5_kinds 13 rfl) rfl w
-- X5.forces
abbrev tbX5_forces : List (Nat × Instr × Nat) := [(0, .aload_n 0, 1), (1, .getfield 19, 3), (4, .iload_n 1, 1), (5, .invokevirtual 96, 3), (8, .ifCond .eq 15, 3), (11, .aload_n 0, 1), (12, .iload_n 1, 1), (13, .iconst 3, 1), (14, .iconst 1, 1), (15, .bipush 9, 2), (17, .invokevirtual 218, 3), (20, .goto 4, 3), (23, .iconst (-1), 1), (24, .ireturn, 1)]
theorem dkX5_forces : dk cX5_forces tbX5_forces := dk_of (by decide +kernel)
abbrev cdX5_forces : Cond := Cond.code yX5_forces cX5_forces 2 (some .int)
abbrev rmX5_forces : Room := { frames := 5, cells := 0, slots := 0, locals := 119 }
theorem mwX5_forces : Cond.instanceMethod yX5_forces ∈ wsL_law ∧ Cond.selects RX5 yX5_forces yX5_forces ∈ wsL_law ∧ Cond.initialized RX5 ∈ wsL_law ∧ cdX5_forces ∈ wsL_law := ⟨inr36 _ (List.mem_of_getElem? (i := 21) rfl), inr36 _ (List.mem_of_getElem? (i := 22) rfl), inr1 _ (List.mem_of_getElem? (i := 2) rfl), inr36 _ (List.mem_of_getElem? (i := 23) rfl)⟩
theorem hdX5_forces : yX5_forces.cls = RX5 ∧ yX5_forces.cls ≠ "java/lang/invoke/MethodHandle" ∧ yX5_forces.cls ≠ "java/lang/invoke/VarHandle" ∧ (parseMethodDescriptor yX5_forces.desc).map (fun d => d.parameters.length) = some 1 := by decide +kernel
set_option maxHeartbeats 4000000 in
set_option maxRecDepth 100000 in
theorem kX5_forces (l : Launch) (g : Gx) (sz : Nat) (a_v a_rd a_nw a_tr a_da a_i0 a_i1 a_s0 a_s1 a_s2 a_s3 : Nat → Nat) (v : VT) (nw : CT) (tr : CT) (da : DT) (p1 : Int32) (res : Int32) (tr_o : CT) (da_o : DT) (hf : fX5_forces p1 v nw tr da = some (res, tr_o, da_o)) : Met l yX5_forces (cdX5_forces :: wsL_law) rmX5_forces (va_Pc [.ref (a_v 0), .int p1] (RWp g sz (wV g a_v a_rd a_nw a_tr a_da a_i0 a_i1 a_s0 a_s1 a_s2 a_s3 v ++ wC g a_nw nw ++ wC g a_tr tr ++ wD g a_da da))) (va_Qi (fun x (_ : Unit) => x = res) (fun _ => RWq g (va_A (wV g a_v a_rd a_nw a_tr a_da a_i0 a_i1 a_s0 a_s1 a_s2 a_s3 v ++ wC g a_nw nw ++ wC g a_tr tr ++ wD g a_da da) sz) (wV g a_v a_rd a_nw a_tr a_da a_i0 a_i1 a_s0 a_s1 a_s2 a_s3 v ++ wC g a_nw nw ++ wC g a_tr tr_o ++ wD g a_da da_o)) (va_A (wV g a_v a_rd a_nw a_tr a_da a_i0 a_i1 a_s0 a_s1 a_s2 a_s3 v ++ wC g a_nw nw ++ wC g a_tr tr ++ wD g a_da da) sz)) 0 0 (va_A (wV g a_v a_rd a_nw a_tr a_da a_i0 a_i1 a_s0 a_s1 a_s2 a_s3 v ++ wC g a_nw nw ++ wC g a_tr tr ++ wD g a_da da) sz) := by
  refine Met_rwi (cc := cX5_forces) (maxL := 2) (by decide) rfl (Nat.le_of_ble_eq_true rfl) ?_
  intro P E Z Mi AR BE ME CO A Q C hK hA fin w ls hl
  have hl : lv_has ls 2 [(0, .ref (a_v 0)), (1, .int p1)] := hl
  unfold fX5_forces at hf
  refine lv_aload_n C.1 C.2.1 (dk_at dkX5_forces 0 rfl) rfl (lv_at hl 0 rfl) ?_
  refine r_get (v := .ref (a_nw 0)) C hK w.1 (fun w h => List.mem_cons_of_mem _ (inlX5 w h)) 0 rfl rfl 1 (by decide) (List.mem_cons_of_mem _ (inr1 _ (List.mem_of_getElem? (i := 19) rfl))) rfl (dk_at dkX5_forces 1 rfl) ?_
  refine lv_iload_n C.1 C.2.1 (dk_at dkX5_forces 2 rfl) rfl (lv_at hl 1 rfl) ?_
  obtain ⟨r1, hq2, hf⟩ := bd1_at hf
  refine r_roV (As := [.int p1]) (rest := []) C (kX0_isSaying l g a_nw nw p1 r1 hq2) (cwV0 C (inr17 _ (List.mem_of_getElem? (i := 22) rfl)) mwX0_isSaying hdX0_isSaying ⟨Nat.le_of_ble_eq_true rfl, Nat.le_of_ble_eq_true rfl⟩) hK (w.1.sub [5, 6, 7, 8, 9, 10, 11, 12, 13, 14, 15] rfl) rfl rfl rfl hl.1 rfl (Nat.le_of_ble_eq_true rfl) ⟨Nat.zero_le _, Nat.zero_le _⟩ (dk_at dkX5_forces 3 rfl) ?_
  refine lv_if_eq (tgt := 23) C.1 C.2.1 (dk_at dkX5_forces 4 rfl) (by decide) (fun c3 => ?_) (fun c3 => ?_)
  · have hf := (if_pos c3).symm.trans hf
    refine lv_iconst (v := (-1)) C.1 C.2.1 (dk_at dkX5_forces 12 rfl) (by decide) ?_
    cases hf
    exact fin _ _ _ _ _ (dk_at dkX5_forces 13 rfl) rfl w
  · have hf := (if_neg c3).symm.trans hf
    refine lv_aload_n C.1 C.2.1 (dk_at dkX5_forces 5 rfl) rfl (lv_at hl 0 rfl) ?_
    refine lv_iload_n C.1 C.2.1 (dk_at dkX5_forces 6 rfl) rfl (lv_at hl 1 rfl) ?_
    refine lv_iconst (v := 3) C.1 C.2.1 (dk_at dkX5_forces 7 rfl) (by decide) ?_
    refine lv_iconst (v := 1) C.1 C.2.1 (dk_at dkX5_forces 8 rfl) (by decide) ?_
    refine lv_bipush (v := 9) C.1 C.2.1 (dk_at dkX5_forces 9 rfl) (by decide) ?_
    obtain ⟨r4, tr_5, da_6, hq7, hf⟩ := bd3_at hf
    refine r_rwi (As := [.int p1, .int 3, .int 1, .int 9]) (rest := []) (wr := []) (ws' := wV g a_v a_rd a_nw a_tr a_da a_i0 a_i1 a_s0 a_s1 a_s2 a_s3 v ++ wC g a_nw nw ++ wC g a_tr tr_5 ++ wD g a_da da_6) C (kX5_asSeenBy l g _ a_v a_rd a_nw a_tr a_da a_i0 a_i1 a_s0 a_s1 a_s2 a_s3 v nw tr da p1 3 1 9 r4 tr_5 da_6 hq7) (cwV0 C (inr36 _ (List.mem_of_getElem? (i := 1) rfl)) mwX5_asSeenBy hdX5_asSeenBy ⟨Nat.le_of_ble_eq_true rfl, Nat.le_of_ble_eq_true rfl⟩) hK w hA [0, 1, 2, 3, 4, 5, 6, 7, 8, 9, 10, 11, 12, 13, 14, 15, 16, 17, 18, 19, 20, 21, 22, 23, 24, 25, 26, 27, 28, 29, 30, 31, 32] [] [0, 1, 2, 3, 4, 5, 6, 7, 8, 9, 10, 11, 12, 13, 14, 15, 16, 17, 18, 19, 20, 21, 22, 23, 24, 25, 26, 27, 28, 29, 30, 31, 32] (by decide) rfl rfl (by decide) (by decide) rfl (by decide) rfl rfl rfl hl.1 rfl (Nat.le_of_ble_eq_true rfl) ⟨Nat.zero_le _, Nat.zero_le _⟩ (dk_at dkX5_forces 10 rfl) (fun H locs w => ?_)
    refine lv_goto (tgt := 24) C.1 C.2.1 (dk_at dkX5_forces 11 rfl) (by decide) ?_
    cases hf
    exact fin _ _ _ _ _ (dk_at dkX5_forces 13 rfl) rfl w
-- X5.froms
abbrev tbX5_froms : List (Nat × Instr × Nat) := [(0, .aload_n 0, 1), (1, .getfield 19, 3), (4, .iload_n 1, 1), (5, .invokevirtual 96, 3), (8, .ifCond .eq 12, 3), (11, .iload_n 2, 1), (12, .ifCond .lt 8, 3), (15, .iload_n 2, 1), (16, .iconst 1, 1), (17, .if_icmp .le 5, 3), (20, .iconst (-1), 1), (21, .ireturn, 1), (22, .iconst 0, 1), (23, .istore_n 3, 1), (24, .bipush (-4), 2), (26, .istore 4, 2), (28, .aload_n 0, 1), (29, .getfield 23, 3), (32, .aload_n 0, 1), (33, .getfield 19, 3), (36, .invokevirtual 73, 3), (39, .iconst 0, 1), (40, .istore 5, 2), (42, .iload 5, 2), (44, .bipush 64, 2), (46, .if_icmp .ge 64, 3), (49, .aload_n 0, 1), (50, .getfield 23, 3), (53, .getfield 100, 3), (56, .iload_n 1, 1), (57, .aaload, 1), (58, .iconst 1, 1), (59, .iload 5, 2), (61, .invokestatic 145, 3), (64, .iastore, 1), (65, .aload_n 0, 1), (66, .getfield 29, 3), (69, .aload_n 0, 1), (70, .getfield 23, 3), (73, .invokevirtual 140, 3), (76, .aload_n 0, 1), (77, .getfield 29, 3), (80, .aload_n 0, 1), (81, .getfield 23, 3), (84, .invokevirtual 222, 3), (87, .ifCond .eq 17, 3), (90, .iload_n 3, 1), (91, .ifCond .ne 10, 3), (94, .iload 5, 2), (96, .invokestatic 145, 3), (99, .istore 4, 2), (101, .iinc 3 1, 3), (104, .iinc 5 1, 3), (107, .goto (-65), 3), (110, .iload_n 2, 1), (111, .ifCond .ne 7, 3), (114, .iload_n 3, 1), (115, .goto 5, 3), (118, .iload 4, 2), (120, .ireturn, 1)]
theorem dkX5_froms : dk cX5_froms tbX5_froms := dk_of (by decide +kernel)
abbrev cdX5_froms : Cond := Cond.code yX5_froms cX5_froms 6 (some .int)
abbrev rmX5_froms : Room := { frames := 4, cells := 0, slots := 0, locals := 93 }
theorem mwX5_froms : Cond.instanceMethod yX5_froms ∈ wsL_law ∧ Cond.selects RX5 yX5_froms yX5_froms ∈ wsL_law ∧ Cond.initialized RX5 ∈ wsL_law ∧ cdX5_froms ∈ wsL_law := ⟨inr37 _ (List.mem_of_getElem? (i := 5) rfl), inr37 _ (List.mem_of_getElem? (i := 6) rfl), inr1 _ (List.mem_of_getElem? (i := 2) rfl), inr37 _ (List.mem_of_getElem? (i := 7) rfl)⟩
theorem hdX5_froms : yX5_froms.cls = RX5 ∧ yX5_froms.cls ≠ "java/lang/invoke/MethodHandle" ∧ yX5_froms.cls ≠ "java/lang/invoke/VarHandle" ∧ (parseMethodDescriptor yX5_froms.desc).map (fun d => d.parameters.length) = some 2 := by decide +kernel
set_option maxHeartbeats 4000000 in
set_option maxRecDepth 100000 in
theorem kX5_froms (l : Launch) (g : Gx) (sz : Nat) (a_v a_rd a_nw a_tr a_da a_i0 a_i1 a_s0 a_s1 a_s2 a_s3 : Nat → Nat) (v : VT) (nw : CT) (tr : CT) (da : DT) (p1 : Int32) (p2 : Int32) (res : Int32) (tr_o : CT) (da_o : DT) (hf : fX5_froms p1 p2 v nw tr da = some (res, tr_o, da_o)) : Met l yX5_froms (cdX5_froms :: wsL_law) rmX5_froms (va_Pc [.ref (a_v 0), .int p1, .int p2] (RWp g sz (wV g a_v a_rd a_nw a_tr a_da a_i0 a_i1 a_s0 a_s1 a_s2 a_s3 v ++ wC g a_nw nw ++ wC g a_tr tr ++ wD g a_da da))) (va_Qi (fun x (_ : Unit) => x = res) (fun _ => RWq g (va_A (wV g a_v a_rd a_nw a_tr a_da a_i0 a_i1 a_s0 a_s1 a_s2 a_s3 v ++ wC g a_nw nw ++ wC g a_tr tr ++ wD g a_da da) sz) (wV g a_v a_rd a_nw a_tr a_da a_i0 a_i1 a_s0 a_s1 a_s2 a_s3 v ++ wC g a_nw nw ++ wC g a_tr tr_o ++ wD g a_da da_o)) (va_A (wV g a_v a_rd a_nw a_tr a_da a_i0 a_i1 a_s0 a_s1 a_s2 a_s3 v ++ wC g a_nw nw ++ wC g a_tr tr ++ wD g a_da da) sz)) 0 0 (va_A (wV g a_v a_rd a_nw a_tr a_da a_i0 a_i1 a_s0 a_s1 a_s2 a_s3 v ++ wC g a_nw nw ++ wC g a_tr tr ++ wD g a_da da) sz) := by
  refine Met_rwi (cc := cX5_froms) (maxL := 6) (by decide) rfl (Nat.le_of_ble_eq_true rfl) ?_
  intro P E Z Mi AR BE ME CO A Q C hK hA fin w ls hl
  have hl : lv_has ls 6 [(0, .ref (a_v 0)), (1, .int p1), (2, .int p2)] := hl
  unfold fX5_froms at hf
  refine lv_aload_n C.1 C.2.1 (dk_at dkX5_froms 0 rfl) rfl (lv_at hl 0 rfl) ?_
  refine r_get (v := .ref (a_nw 0)) C hK w.1 (fun w h => List.mem_cons_of_mem _ (inlX5 w h)) 0 rfl rfl 1 (by decide) (List.mem_cons_of_mem _ (inr1 _ (List.mem_of_getElem? (i := 19) rfl))) rfl (dk_at dkX5_froms 1 rfl) ?_
  refine lv_iload_n C.1 C.2.1 (dk_at dkX5_froms 2 rfl) rfl (lv_at hl 1 rfl) ?_
  obtain ⟨r1, hq2, hf⟩ := bd1_at hf
  refine r_roV (As := [.int p1]) (rest := []) C (kX0_isSaying l g a_nw nw p1 r1 hq2) (cwV0 C (inr17 _ (List.mem_of_getElem? (i := 22) rfl)) mwX0_isSaying hdX0_isSaying ⟨Nat.le_of_ble_eq_true rfl, Nat.le_of_ble_eq_true rfl⟩) hK (w.1.sub [5, 6, 7, 8, 9, 10, 11, 12, 13, 14, 15] rfl) rfl rfl rfl hl.1 rfl (Nat.le_of_ble_eq_true rfl) ⟨Nat.zero_le _, Nat.zero_le _⟩ (dk_at dkX5_froms 3 rfl) ?_
  refine lv_if_eq (tgt := 20) C.1 C.2.1 (dk_at dkX5_froms 4 rfl) (by decide) (fun c3 => ?_) (fun c3 => ?_)
  · have hf := (if_pos c3).symm.trans hf
    refine lv_iconst (v := (-1)) C.1 C.2.1 (dk_at dkX5_froms 10 rfl) (by decide) ?_
    cases hf
    exact fin _ _ _ _ _ (dk_at dkX5_froms 11 rfl) rfl w
  · have hf := (if_neg c3).symm.trans hf
    refine lv_iload_n C.1 C.2.1 (dk_at dkX5_froms 5 rfl) rfl (lv_at hl 2 rfl) ?_
    refine lv_if_lt (tgt := 20) C.1 C.2.1 (dk_at dkX5_froms 6 rfl) (by decide) (fun c4 => ?_) (fun c4 => ?_)
    · have hf := (if_pos c4).symm.trans hf
      refine lv_iconst (v := (-1)) C.1 C.2.1 (dk_at dkX5_froms 10 rfl) (by decide) ?_
      cases hf
      exact fin _ _ _ _ _ (dk_at dkX5_froms 11 rfl) rfl w
    · have hf := (if_neg c4).symm.trans hf
      refine lv_iload_n C.1 C.2.1 (dk_at dkX5_froms 7 rfl) rfl (lv_at hl 2 rfl) ?_
      refine lv_iconst (v := 1) C.1 C.2.1 (dk_at dkX5_froms 8 rfl) (by decide) ?_
      refine lv_icmp_le (tgt := 22) C.1 C.2.1 (dk_at dkX5_froms 9 rfl) (by decide) (fun c5 => ?_) (fun c5 => ?_)
      · have hf := (if_pos c5).symm.trans hf
        refine lv_iconst (v := 0) C.1 C.2.1 (dk_at dkX5_froms 12 rfl) (by decide) ?_
        refine lv_istore_n (lv' := [(3, .int 0), (0, .ref (a_v 0)), (1, .int p1), (2, .int p2)]) C.1 C.2.1 (dk_at dkX5_froms 13 rfl) rfl hl (by decide) rfl (fun ls hl => ?_)
        refine lv_bipush (v := (-4)) C.1 C.2.1 (dk_at dkX5_froms 14 rfl) (by decide) ?_
        refine lv_istore (lv' := [(4, .int (-4)), (3, .int 0), (0, .ref (a_v 0)), (1, .int p1), (2, .int p2)]) C.1 C.2.1 (dk_at dkX5_froms 15 rfl) hl (by decide) rfl (fun ls hl => ?_)
        refine lv_aload_n C.1 C.2.1 (dk_at dkX5_froms 16 rfl) rfl (lv_at hl 2 rfl) ?_
        refine r_get (v := .ref (a_tr 0)) C hK w.1 (fun w h => List.mem_cons_of_mem _ (inlX5 w h)) 0 rfl rfl 2 (by decide) (List.mem_cons_of_mem _ (inr1 _ (List.mem_of_getElem? (i := 20) rfl))) rfl (dk_at dkX5_froms 17 rfl) ?_
        refine lv_aload_n C.1 C.2.1 (dk_at dkX5_froms 18 rfl) rfl (lv_at hl 2 rfl) ?_
        refine r_get (v := .ref (a_nw 0)) C hK w.1 (fun w h => List.mem_cons_of_mem _ (inlX5 w h)) 0 rfl rfl 1 (by decide) (List.mem_cons_of_mem _ (inr1 _ (List.mem_of_getElem? (i := 19) rfl))) rfl (dk_at dkX5_froms 19 rfl) ?_
        obtain ⟨tr_6, hq7, hf⟩ := bd1_at hf
        refine r_rwv (As := [.ref (a_nw 0)]) (rest := []) (wr := wV g a_v a_rd a_nw a_tr a_da a_i0 a_i1 a_s0 a_s1 a_s2 a_s3 v ++ wD g a_da da) (ws' := wV g a_v a_rd a_nw a_tr a_da a_i0 a_i1 a_s0 a_s1 a_s2 a_s3 v ++ wC g a_nw nw ++ wC g a_tr tr_6 ++ wD g a_da da) C (kX0_copyTo l g _ a_tr a_nw tr nw tr_6 hq7) (cwV0 C (inr12 _ (List.mem_of_getElem? (i := 6) rfl)) mwX0_copyFrom hdX0_copyFrom ⟨Nat.le_of_ble_eq_true rfl, Nat.le_of_ble_eq_true rfl⟩) hK w hA [16, 17, 18, 19, 20, 21, 22, 23, 24, 25, 26, 5, 6, 7, 8, 9, 10, 11, 12, 13, 14, 15] [0, 1, 2, 3, 4, 27, 28, 29, 30, 31, 32] [0, 1, 2, 3, 4, 22, 23, 24, 25, 26, 27, 28, 29, 30, 31, 32, 11, 12, 13, 14, 15, 16, 17, 18, 19, 20, 21, 5, 6, 7, 8, 9, 10] (by decide) rfl rfl (by decide) (by decide) rfl (by decide) rfl rfl rfl hl.1 rfl (Nat.le_of_ble_eq_true rfl) ⟨Nat.zero_le _, Nat.zero_le _⟩ (dk_at dkX5_froms 20 rfl) (fun H locs w => ?_)
        refine lv_iconst (v := 0) C.1 C.2.1 (dk_at dkX5_froms 21 rfl) (by decide) ?_
        refine lv_istore (lv' := [(5, .int 0), (4, .int (-4)), (3, .int 0), (0, .ref (a_v 0)), (1, .int p1), (2, .int p2)]) C.1 C.2.1 (dk_at dkX5_froms 22 rfl) hl (by decide) rfl (fun ls hl => ?_)
        have L13 : ∀ (K : Int32 → Int32 → Int32 → CT → DT → Option (Int32 × CT × DT)), (∀ (v8 : Int32) (v9 : Int32) (v10 : Int32) (tr_11 : CT) (da_12 : DT) (H : Heap) (locs : List Loc) (ls : Array Slot), Wd g A Z.heap (wV g a_v a_rd a_nw a_tr a_da a_i0 a_i1 a_s0 a_s1 a_s2 a_s3 v ++ wC g a_nw nw ++ wC g a_tr tr_11 ++ wD g a_da da_12) H locs → lv_has ls 6 [(4, .int v9), (3, .int v10), (2, .int p2)] → K v8 v9 v10 tr_11 da_12 = some (res, tr_o, da_o) → W P l E rmX5_froms Z Mi AR BE ME CO H locs 0 0 Q (F0 Mi 110 ls [])) → ∀ (n : Nat), ∀ (v8 : Int32) (v9 : Int32) (v10 : Int32) (tr_11 : CT) (da_12 : DT) (H : Heap) (locs : List Loc) (ls : Array Slot), Wd g A Z.heap (wV g a_v a_rd a_nw a_tr a_da a_i0 a_i1 a_s0 a_s1 a_s2 a_s3 v ++ wC g a_nw nw ++ wC g a_tr tr_11 ++ wD g a_da da_12) H locs → lv_has ls 6 [(5, .int v8), (4, .int v9), (3, .int v10), (0, .ref (a_v 0)), (1, .int p1), (2, .int p2)] → fX5_froms_L42 p1 K n v8 v9 v10 tr_11 da_12 = some (res, tr_o, da_o) → W P l E rmX5_froms Z Mi AR BE ME CO H locs 0 0 Q (F0 Mi 42 ls []) := by
          intro K hKe n
          induction n with
          | zero => intro v8 v9 v10 tr_11 da_12 H locs ls w hl hf; cases hf
          | succ n ih =>
            intro v8 v9 v10 tr_11 da_12 H locs ls w hl hf
            rw [fX5_froms_L42] at hf
            refine lv_iload C.1 C.2.1 (dk_at dkX5_froms 23 rfl) (lv_at hl 0 rfl) ?_
            refine lv_bipush (v := 64) C.1 C.2.1 (dk_at dkX5_froms 24 rfl) (by decide) ?_
            refine lv_icmp_ge (tgt := 110) C.1 C.2.1 (dk_at dkX5_froms 25 rfl) (by decide) (fun c14 => ?_) (fun c14 => ?_)
            · have hf := (if_pos c14).symm.trans hf
              exact hKe v8 v9 v10 tr_11 da_12 _ _ _ w (lv_sub hl [1, 2, 5] rfl) hf
            · have hf := (if_neg c14).symm.trans hf
              refine lv_aload_n C.1 C.2.1 (dk_at dkX5_froms 26 rfl) rfl (lv_at hl 3 rfl) ?_
              refine r_get (v := .ref (a_tr 0)) C hK w.1 (fun w h => List.mem_cons_of_mem _ (inlX5 w h)) 0 rfl rfl 2 (by decide) (List.mem_cons_of_mem _ (inr1 _ (List.mem_of_getElem? (i := 20) rfl))) rfl (dk_at dkX5_froms 27 rfl) ?_
              refine r_get (v := .ref (a_tr 2)) C hK w.1 (fun w h => List.mem_cons_of_mem _ (inlX0 w h)) 16 rfl rfl 2 (by decide) (List.mem_cons_of_mem _ (inr17 _ (List.mem_of_getElem? (i := 21) rfl))) rfl (dk_at dkX5_froms 28 rfl) ?_
              refine lv_iload_n C.1 C.2.1 (dk_at dkX5_froms 29 rfl) rfl (lv_at hl 4 rfl) ?_
              obtain ⟨h15, hf⟩ := gd_at hf
              refine r_aldr (b := a_tr (3 + p1.toNatClampNeg)) C hK w.1 18 rfl h15 rfl (dk_at dkX5_froms 30 rfl) ?_
              have h16 := in_lt h15
              refine lv_iconst (v := 1) C.1 C.2.1 (dk_at dkX5_froms 31 rfl) (by decide) ?_
              refine lv_iload C.1 C.2.1 (dk_at dkX5_froms 32 rfl) (lv_at hl 0 rfl) ?_
              obtain ⟨r17, hq18, hf⟩ := bd1_at hf
              refine r_st (As := [.int v8]) (rest := [.int 1, .ref (a_tr (3 + p1.toNatClampNeg))]) C (kX3_cellOf l v8 r17 hq18) (cwS0 C (inr24 _ (List.mem_of_getElem? (i := 21) rfl)) mwX3_cellOf hdX3_cellOf ⟨Nat.le_of_ble_eq_true rfl, Nat.le_of_ble_eq_true rfl⟩) rfl hl.1 rfl (Nat.le_of_ble_eq_true rfl) ⟨Nat.zero_le _, Nat.zero_le _⟩ (dk_at dkX5_froms 33 rfl) ?_
              refine r_iast (k := 1) (a := a_tr (3 + p1.toNatClampNeg)) (n := 5) (f := cTo tr_11 p1.toNatClampNeg) C hK w (16 + (3 + p1.toNatClampNeg)) (by rcases lt5 h16 with h5 | h5 | h5 | h5 | h5 <;> rw [h5] <;> rfl) (in_c (by decide)) (by decide) (dk_at dkX5_froms 34 rfl) (fun H locs w => ?_)
              obtain ⟨tr_19, etr_19⟩ : ∃ z : CT, z = cTo' tr_11 (va_up (cTo tr_11) p1.toNatClampNeg (upd (cTo tr_11 p1.toNatClampNeg) 1 r17)) := ⟨_, rfl⟩
              have hf := nm_at etr_19 hf
              have w : Wd g A Z.heap (wV g a_v a_rd a_nw a_tr a_da a_i0 a_i1 a_s0 a_s1 a_s2 a_s3 v ++ wC g a_nw nw ++ wC g a_tr tr_19 ++ wD g a_da da_12) H locs := by rw [etr_19]; rcases lt5 h16 with h5 | h5 | h5 | h5 | h5 <;> (rw [h5] at w; rw [h5]; exact w)
              refine lv_aload_n C.1 C.2.1 (dk_at dkX5_froms 35 rfl) rfl (lv_at hl 3 rfl) ?_
              refine r_get (v := .ref (a_da 0)) C hK w.1 (fun w h => List.mem_cons_of_mem _ (inlX5 w h)) 0 rfl rfl 3 (by decide) (List.mem_cons_of_mem _ (inr2 _ (List.mem_of_getElem? (i := 0) rfl))) rfl (dk_at dkX5_froms 36 rfl) ?_
              refine lv_aload_n C.1 C.2.1 (dk_at dkX5_froms 37 rfl) rfl (lv_at hl 3 rfl) ?_
              refine r_get (v := .ref (a_tr 0)) C hK w.1 (fun w h => List.mem_cons_of_mem _ (inlX5 w h)) 0 rfl rfl 2 (by decide) (List.mem_cons_of_mem _ (inr1 _ (List.mem_of_getElem? (i := 20) rfl))) rfl (dk_at dkX5_froms 38 rfl) ?_
              obtain ⟨da_20, hq21, hf⟩ := bd1_at hf
              refine r_rwv (As := [.ref (a_tr 0)]) (rest := []) (wr := wV g a_v a_rd a_nw a_tr a_da a_i0 a_i1 a_s0 a_s1 a_s2 a_s3 v ++ wC g a_nw nw) (ws' := wV g a_v a_rd a_nw a_tr a_da a_i0 a_i1 a_s0 a_s1 a_s2 a_s3 v ++ wC g a_nw nw ++ wC g a_tr tr_19 ++ wD g a_da da_20) C (kX1_pass l g _ a_da a_tr da_12 tr_19 da_20 hq21) (cwV0 C (inr23 _ (List.mem_of_getElem? (i := 7) rfl)) mwX1_pass hdX1_pass ⟨Nat.le_of_ble_eq_true rfl, Nat.le_of_ble_eq_true rfl⟩) hK w hA [27, 28, 29, 30, 31, 32, 16, 17, 18, 19, 20, 21, 22, 23, 24, 25, 26] [0, 1, 2, 3, 4, 5, 6, 7, 8, 9, 10, 11, 12, 13, 14, 15] [0, 1, 2, 3, 4, 5, 6, 7, 8, 9, 10, 11, 12, 13, 14, 15, 22, 23, 24, 25, 26, 27, 28, 29, 30, 31, 32, 16, 17, 18, 19, 20, 21] (by decide) rfl rfl (by decide) (by decide) rfl (by decide) rfl rfl rfl hl.1 rfl (Nat.le_of_ble_eq_true rfl) ⟨Nat.zero_le _, Nat.zero_le _⟩ (dk_at dkX5_froms 39 rfl) (fun H locs w => ?_)
              refine lv_aload_n C.1 C.2.1 (dk_at dkX5_froms 40 rfl) rfl (lv_at hl 3 rfl) ?_
              refine r_get (v := .ref (a_da 0)) C hK w.1 (fun w h => List.mem_cons_of_mem _ (inlX5 w h)) 0 rfl rfl 3 (by decide) (List.mem_cons_of_mem _ (inr2 _ (List.mem_of_getElem? (i := 0) rfl))) rfl (dk_at dkX5_froms 41 rfl) ?_
              refine lv_aload_n C.1 C.2.1 (dk_at dkX5_froms 42 rfl) rfl (lv_at hl 3 rfl) ?_
              refine r_get (v := .ref (a_tr 0)) C hK w.1 (fun w h => List.mem_cons_of_mem _ (inlX5 w h)) 0 rfl rfl 2 (by decide) (List.mem_cons_of_mem _ (inr1 _ (List.mem_of_getElem? (i := 20) rfl))) rfl (dk_at dkX5_froms 43 rfl) ?_
              obtain ⟨r22, hq23, hf⟩ := bd1_at hf
              refine r_roV (As := [.ref (a_tr 0)]) (rest := []) C (kX1_isAsSeen l g a_da a_tr da_20 tr_19 r22 hq23) (cwV0 C (inr36 _ (List.mem_of_getElem? (i := 5) rfl)) mwX1_isAsSeen hdX1_isAsSeen ⟨Nat.le_of_ble_eq_true rfl, Nat.le_of_ble_eq_true rfl⟩) hK (w.1.sub [27, 28, 29, 30, 31, 32, 16, 17, 18, 19, 20, 21, 22, 23, 24, 25, 26] rfl) rfl rfl rfl hl.1 rfl (Nat.le_of_ble_eq_true rfl) ⟨Nat.zero_le _, Nat.zero_le _⟩ (dk_at dkX5_froms 44 rfl) ?_
              refine lv_if_eq (tgt := 104) C.1 C.2.1 (dk_at dkX5_froms 45 rfl) (by decide) (fun c24 => ?_) (fun c24 => ?_)
              · have hf := (if_pos c24).symm.trans hf
                obtain ⟨x25, ex25⟩ : ∃ z : Int32, z = v8 + 1 := ⟨_, rfl⟩
                have hf := nm_at ex25 hf
                refine lv_iinc (v := x25) (lv' := [(5, .int x25), (4, .int v9), (3, .int v10), (0, .ref (a_v 0)), (1, .int p1), (2, .int p2)]) C.1 C.2.1 (dk_at dkX5_froms 52 rfl) hl (k := 0) rfl (by rw [ex25]; rfl) (by decide) rfl (fun ls hl => ?_)
                refine lv_goto (tgt := 42) C.1 C.2.1 (dk_at dkX5_froms 53 rfl) (by decide) ?_
                exact ih x25 v9 v10 tr_19 da_20 _ _ _ w (lv_sub hl [0, 1, 2, 3, 4, 5] rfl) hf
              · have hf := (if_neg c24).symm.trans hf
                refine lv_iload_n C.1 C.2.1 (dk_at dkX5_froms 46 rfl) rfl (lv_at hl 2 rfl) ?_
                refine lv_if_ne (tgt := 101) C.1 C.2.1 (dk_at dkX5_froms 47 rfl) (by decide) (fun c26 => ?_) (fun c26 => ?_)
                · have hf := (if_neg c26).symm.trans hf
                  obtain ⟨x27, ex27⟩ : ∃ z : Int32, z = v10 + 1 := ⟨_, rfl⟩
                  have hf := nm_at ex27 hf
                  refine lv_iinc (v := x27) (lv' := [(3, .int x27), (5, .int v8), (4, .int v9), (0, .ref (a_v 0)), (1, .int p1), (2, .int p2)]) C.1 C.2.1 (dk_at dkX5_froms 51 rfl) hl (k := 2) rfl (by rw [ex27]; rfl) (by decide) rfl (fun ls hl => ?_)
                  obtain ⟨x28, ex28⟩ : ∃ z : Int32, z = v8 + 1 := ⟨_, rfl⟩
                  have hf := nm_at ex28 hf
                  refine lv_iinc (v := x28) (lv' := [(5, .int x28), (3, .int x27), (4, .int v9), (0, .ref (a_v 0)), (1, .int p1), (2, .int p2)]) C.1 C.2.1 (dk_at dkX5_froms 52 rfl) hl (k := 1) rfl (by rw [ex28]; rfl) (by decide) rfl (fun ls hl => ?_)
                  refine lv_goto (tgt := 42) C.1 C.2.1 (dk_at dkX5_froms 53 rfl) (by decide) ?_
                  exact ih x28 v9 x27 tr_19 da_20 _ _ _ w (lv_sub hl [0, 2, 1, 3, 4, 5] rfl) hf
                · have hf := (if_pos c26).symm.trans hf
                  refine lv_iload C.1 C.2.1 (dk_at dkX5_froms 48 rfl) (lv_at hl 0 rfl) ?_
                  obtain ⟨r29, hq30, hf⟩ := bd1_at hf
                  refine r_st (As := [.int v8]) (rest := []) C (kX3_cellOf l v8 r29 hq30) (cwS0 C (inr24 _ (List.mem_of_getElem? (i := 21) rfl)) mwX3_cellOf hdX3_cellOf ⟨Nat.le_of_ble_eq_true rfl, Nat.le_of_ble_eq_true rfl⟩) rfl hl.1 rfl (Nat.le_of_ble_eq_true rfl) ⟨Nat.zero_le _, Nat.zero_le _⟩ (dk_at dkX5_froms 49 rfl) ?_
                  refine lv_istore (lv' := [(4, .int r29), (5, .int v8), (3, .int v10), (0, .ref (a_v 0)), (1, .int p1), (2, .int p2)]) C.1 C.2.1 (dk_at dkX5_froms 50 rfl) hl (by decide) rfl (fun ls hl => ?_)
                  obtain ⟨x31, ex31⟩ : ∃ z : Int32, z = v10 + 1 := ⟨_, rfl⟩
                  have hf := nm_at ex31 hf
                  refine lv_iinc (v := x31) (lv' := [(3, .int x31), (4, .int r29), (5, .int v8), (0, .ref (a_v 0)), (1, .int p1), (2, .int p2)]) C.1 C.2.1 (dk_at dkX5_froms 51 rfl) hl (k := 2) rfl (by rw [ex31]; rfl) (by decide) rfl (fun ls hl => ?_)
                  obtain ⟨x32, ex32⟩ : ∃ z : Int32, z = v8 + 1 := ⟨_, rfl⟩
                  have hf := nm_at ex32 hf
                  refine lv_iinc (v := x32) (lv' := [(5, .int x32), (3, .int x31), (4, .int r29), (0, .ref (a_v 0)), (1, .int p1), (2, .int p2)]) C.1 C.2.1 (dk_at dkX5_froms 52 rfl) hl (k := 2) rfl (by rw [ex32]; rfl) (by decide) rfl (fun ls hl => ?_)
                  refine lv_goto (tgt := 42) C.1 C.2.1 (dk_at dkX5_froms 53 rfl) (by decide) ?_
                  exact ih x32 r29 x31 tr_19 da_20 _ _ _ w (lv_sub hl [0, 2, 1, 3, 4, 5] rfl) hf
        refine L13 _ ?_ 4096 0 (-4) 0 tr_6 da _ _ _ w (lv_sub hl [0, 1, 2, 3, 4, 5] rfl) hf
        clear hf
        intro v8 v9 v10 tr_11 da_12 H locs ls w hl hf
        refine lv_iload_n C.1 C.2.1 (dk_at dkX5_froms 54 rfl) rfl (lv_at hl 2 rfl) ?_
        refine lv_if_ne (tgt := 118) C.1 C.2.1 (dk_at dkX5_froms 55 rfl) (by decide) (fun c33 => ?_) (fun c33 => ?_)
        · have hf := (if_neg c33).symm.trans hf
          refine lv_iload C.1 C.2.1 (dk_at dkX5_froms 58 rfl) (lv_at hl 0 rfl) ?_
          cases hf
          exact fin _ _ _ _ _ (dk_at dkX5_froms 59 rfl) rfl w
        · have hf := (if_pos c33).symm.trans hf
          refine lv_iload_n C.1 C.2.1 (dk_at dkX5_froms 56 rfl) rfl (lv_at hl 1 rfl) ?_
          refine lv_goto (tgt := 120) C.1 C.2.1 (dk_at dkX5_froms 57 rfl) (by decide) ?_
          cases hf
          exact fin _ _ _ _ _ (dk_at dkX5_froms 59 rfl) rfl w
      · have hf := (if_neg c5).symm.trans hf
        refine lv_iconst (v := (-1)) C.1 C.2.1 (dk_at dkX5_froms 10 rfl) (by decide) ?_
        cases hf
        exact fin _ _ _ _ _ (dk_at dkX5_froms 11 rfl) rfl w
-- X5.mostLeft
abbrev tbX5_mostLeft : List (Nat × Instr × Nat) := [(0, .iconst 0, 1), (1, .istore 4, 2), (3, .iconst 0, 1), (4, .istore 5, 2), (6, .iload 5, 2), (8, .bipush 64, 2), (10, .if_icmp .ge 17, 3), (13, .aload_n 0, 1), (14, .getfield 33, 3), (17, .iload 5, 2), (19, .iconst 0, 1), (20, .iastore, 1), (21, .iinc 5 1, 3), (24, .goto (-18), 3), (27, .aload_n 0, 1), (28, .getfield 23, 3), (31, .aload_n 0, 1), (32, .getfield 19, 3), (35, .invokevirtual 73, 3), (38, .iconst 1, 1), (39, .istore 5, 2), (41, .iload 5, 2), (43, .bipush 9, 2), (45, .if_icmp .gt 78, 3), (48, .iload_n 2, 1), (49, .iload 5, 2), (51, .ishr, 1), (52, .iconst 1, 1), (53, .iand, 1), (54, .ifCond .eq 63, 3), (57, .aload_n 0, 1), (58, .getfield 23, 3), (61, .getfield 100, 3), (64, .iload_n 1, 1), (65, .aaload, 1), (66, .iconst 3, 1), (67, .iload 5, 2), (69, .iastore, 1), (70, .aload_n 0, 1), (71, .getfield 29, 3), (74, .aload_n 0, 1), (75, .getfield 23, 3), (78, .invokevirtual 140, 3), (81, .aload_n 0, 1), (82, .getfield 29, 3), (85, .getfield 143, 3), (88, .iload_n 3, 1), (89, .iaload, 1), (90, .istore 6, 2), (92, .aload_n 0, 1), (93, .getfield 33, 3), (96, .iload 6, 2), (98, .dup2, 1), (99, .iaload, 1), (100, .iconst 1, 1), (101, .iadd, 1), (102, .iastore, 1), (103, .iload 4, 2), (105, .aload_n 0, 1), (106, .getfield 33, 3), (109, .iload 6, 2), (111, .iaload, 1), (112, .invokestatic 229, 3), (115, .istore 4, 2), (117, .iinc 5 1, 3), (120, .goto (-79), 3), (123, .iload 4, 2), (125, .ireturn, 1)]
theorem dkX5_mostLeft : dk cX5_mostLeft tbX5_mostLeft := dk_of (by decide +kernel)
abbrev cdX5_mostLeft : Cond := Cond.code yX5_mostLeft cX5_mostLeft 7 (some .int)
abbrev rmX5_mostLeft : Room := { frames := 4, cells := 0, slots := 0, locals := 93 }
theorem mwX5_mostLeft : Cond.instanceMethod yX5_mostLeft ∈ wsL_law ∧ Cond.selects RX5 yX5_mostLeft yX5_mostLeft ∈ wsL_law ∧ Cond.initialized RX5 ∈ wsL_law ∧ cdX5_mostLeft ∈ wsL_law := ⟨inr37 _ (List.mem_of_getElem? (i := 17) rfl), inr37 _ (List.mem_of_getElem? (i := 18) rfl), inr1 _ (List.mem_of_getElem? (i := 2) rfl), inr37 _ (List.mem_of_getElem? (i := 19) rfl)⟩
theorem hdX5_mostLeft : yX5_mostLeft.cls = RX5 ∧ yX5_mostLeft.cls ≠ "java/lang/invoke/MethodHandle" ∧ yX5_mostLeft.cls ≠ "java/lang/invoke/VarHandle" ∧ (parseMethodDescriptor yX5_mostLeft.desc).map (fun d => d.parameters.length) = some 3 := by decide +kernel
set_option maxHeartbeats 4000000 in
set_option maxRecDepth 100000 in
theorem kX5_mostLeft (l : Launch) (g : Gx) (sz : Nat) (a_v a_rd a_nw a_tr a_da a_i0 a_i1 a_s0 a_s1 a_s2 a_s3 : Nat → Nat) (v : VT) (nw : CT) (tr : CT) (da : DT) (p1 : Int32) (p2 : Int32) (p3 : Int32) (res : Int32) (v_o : VT) (tr_o : CT) (da_o : DT) (hf : fX5_mostLeft p1 p2 p3 v nw tr da = some (res, v_o, tr_o, da_o)) : Met l yX5_mostLeft (cdX5_mostLeft :: wsL_law) rmX5_mostLeft (va_Pc [.ref (a_v 0), .int p1, .int p2, .int p3] (RWp g sz (wV g a_v a_rd a_nw a_tr a_da a_i0 a_i1 a_s0 a_s1 a_s2 a_s3 v ++ wC g a_nw nw ++ wC g a_tr tr ++ wD g a_da da))) (va_Qi (fun x (_ : Unit) => x = res) (fun _ => RWq g (va_A (wV g a_v a_rd a_nw a_tr a_da a_i0 a_i1 a_s0 a_s1 a_s2 a_s3 v ++ wC g a_nw nw ++ wC g a_tr tr ++ wD g a_da da) sz) (wV g a_v a_rd a_nw a_tr a_da a_i0 a_i1 a_s0 a_s1 a_s2 a_s3 v_o ++ wC g a_nw nw ++ wC g a_tr tr_o ++ wD g a_da da_o)) (va_A (wV g a_v a_rd a_nw a_tr a_da a_i0 a_i1 a_s0 a_s1 a_s2 a_s3 v ++ wC g a_nw nw ++ wC g a_tr tr ++ wD g a_da da) sz)) 0 0 (va_A (wV g a_v a_rd a_nw a_tr a_da a_i0 a_i1 a_s0 a_s1 a_s2 a_s3 v ++ wC g a_nw nw ++ wC g a_tr tr ++ wD g a_da da) sz) := by
  refine Met_rwi (cc := cX5_mostLeft) (maxL := 7) (by decide) rfl (Nat.le_of_ble_eq_true rfl) ?_
  intro P E Z Mi AR BE ME CO A Q C hK hA fin w ls hl
  have hl : lv_has ls 7 [(0, .ref (a_v 0)), (1, .int p1), (2, .int p2), (3, .int p3)] := hl
  unfold fX5_mostLeft at hf
  refine lv_iconst (v := 0) C.1 C.2.1 (dk_at dkX5_mostLeft 0 rfl) (by decide) ?_
  refine lv_istore (lv' := [(4, .int 0), (0, .ref (a_v 0)), (1, .int p1), (2, .int p2), (3, .int p3)]) C.1 C.2.1 (dk_at dkX5_mostLeft 1 rfl) hl (by decide) rfl (fun ls hl => ?_)
  refine lv_iconst (v := 0) C.1 C.2.1 (dk_at dkX5_mostLeft 2 rfl) (by decide) ?_
  refine lv_istore (lv' := [(5, .int 0), (4, .int 0), (0, .ref (a_v 0)), (1, .int p1), (2, .int p2), (3, .int p3)]) C.1 C.2.1 (dk_at dkX5_mostLeft 3 rfl) hl (by decide) rfl (fun ls hl => ?_)
  have L3 : ∀ (K : Int32 → VT → Option (Int32 × VT × CT × DT)), (∀ (v1 : Int32) (v_2 : VT) (H : Heap) (locs : List Loc) (ls : Array Slot), Wd g A Z.heap (wV g a_v a_rd a_nw a_tr a_da a_i0 a_i1 a_s0 a_s1 a_s2 a_s3 v_2 ++ wC g a_nw nw ++ wC g a_tr tr ++ wD g a_da da) H locs → lv_has ls 7 [(4, .int 0), (0, .ref (a_v 0)), (1, .int p1), (2, .int p2), (3, .int p3)] → K v1 v_2 = some (res, v_o, tr_o, da_o) → W P l E rmX5_mostLeft Z Mi AR BE ME CO H locs 0 0 Q (F0 Mi 27 ls [])) → ∀ (n : Nat), ∀ (v1 : Int32) (v_2 : VT) (H : Heap) (locs : List Loc) (ls : Array Slot), Wd g A Z.heap (wV g a_v a_rd a_nw a_tr a_da a_i0 a_i1 a_s0 a_s1 a_s2 a_s3 v_2 ++ wC g a_nw nw ++ wC g a_tr tr ++ wD g a_da da) H locs → lv_has ls 7 [(5, .int v1), (4, .int 0), (0, .ref (a_v 0)), (1, .int p1), (2, .int p2), (3, .int p3)] → fX5_mostLeft_L6 K n v1 v_2 = some (res, v_o, tr_o, da_o) → W P l E rmX5_mostLeft Z Mi AR BE ME CO H locs 0 0 Q (F0 Mi 6 ls []) := by
    intro K hKe n
    induction n with
    | zero => intro v1 v_2 H locs ls w hl hf; cases hf
    | succ n ih =>
      intro v1 v_2 H locs ls w hl hf
      rw [fX5_mostLeft_L6] at hf
      refine lv_iload C.1 C.2.1 (dk_at dkX5_mostLeft 4 rfl) (lv_at hl 0 rfl) ?_
      refine lv_bipush (v := 64) C.1 C.2.1 (dk_at dkX5_mostLeft 5 rfl) (by decide) ?_
      refine lv_icmp_ge (tgt := 27) C.1 C.2.1 (dk_at dkX5_mostLeft 6 rfl) (by decide) (fun c4 => ?_) (fun c4 => ?_)
      · have hf := (if_pos c4).symm.trans hf
        exact hKe v1 v_2 _ _ _ w (lv_sub hl [1, 2, 3, 4, 5] rfl) hf
      · have hf := (if_neg c4).symm.trans hf
        refine lv_aload_n C.1 C.2.1 (dk_at dkX5_mostLeft 7 rfl) rfl (lv_at hl 2 rfl) ?_
        refine r_get (v := .ref (a_v 1)) C hK w.1 (fun w h => List.mem_cons_of_mem _ (inlX5 w h)) 0 rfl rfl 4 (by decide) (List.mem_cons_of_mem _ (inr2 _ (List.mem_of_getElem? (i := 2) rfl))) rfl (dk_at dkX5_mostLeft 8 rfl) ?_
        refine lv_iload C.1 C.2.1 (dk_at dkX5_mostLeft 9 rfl) (lv_at hl 0 rfl) ?_
        refine lv_iconst (v := 0) C.1 C.2.1 (dk_at dkX5_mostLeft 10 rfl) (by decide) ?_
        obtain ⟨h5, hf⟩ := gd_at hf
        refine r_iast (k := v1.toNatClampNeg) (f := (vTa v_2)) C hK w 1 rfl h5 rfl (dk_at dkX5_mostLeft 11 rfl) (fun H locs w => ?_)
        obtain ⟨v_6, ev_6⟩ : ∃ z : VT, z = vTa' v_2 (upd (vTa v_2) v1.toNatClampNeg 0) := ⟨_, rfl⟩
        have hf := nm_at ev_6 hf
        have w : Wd g A Z.heap (wV g a_v a_rd a_nw a_tr a_da a_i0 a_i1 a_s0 a_s1 a_s2 a_s3 v_6 ++ wC g a_nw nw ++ wC g a_tr tr ++ wD g a_da da) H locs := by rw [ev_6]; exact w
        obtain ⟨x7, ex7⟩ : ∃ z : Int32, z = v1 + 1 := ⟨_, rfl⟩
        have hf := nm_at ex7 hf
        refine lv_iinc (v := x7) (lv' := [(5, .int x7), (4, .int 0), (0, .ref (a_v 0)), (1, .int p1), (2, .int p2), (3, .int p3)]) C.1 C.2.1 (dk_at dkX5_mostLeft 12 rfl) hl (k := 0) rfl (by rw [ex7]; rfl) (by decide) rfl (fun ls hl => ?_)
        refine lv_goto (tgt := 6) C.1 C.2.1 (dk_at dkX5_mostLeft 13 rfl) (by decide) ?_
        exact ih x7 v_6 _ _ _ w (lv_sub hl [0, 1, 2, 3, 4, 5] rfl) hf
  refine L3 _ ?_ 4096 0 v _ _ _ w (lv_sub hl [0, 1, 2, 3, 4, 5] rfl) hf
  clear hf
  intro v1 v_2 H locs ls w hl hf
  refine lv_aload_n C.1 C.2.1 (dk_at dkX5_mostLeft 14 rfl) rfl (lv_at hl 1 rfl) ?_
  refine r_get (v := .ref (a_tr 0)) C hK w.1 (fun w h => List.mem_cons_of_mem _ (inlX5 w h)) 0 rfl rfl 2 (by decide) (List.mem_cons_of_mem _ (inr1 _ (List.mem_of_getElem? (i := 20) rfl))) rfl (dk_at dkX5_mostLeft 15 rfl) ?_
  refine lv_aload_n C.1 C.2.1 (dk_at dkX5_mostLeft 16 rfl) rfl (lv_at hl 1 rfl) ?_
  refine r_get (v := .ref (a_nw 0)) C hK w.1 (fun w h => List.mem_cons_of_mem _ (inlX5 w h)) 0 rfl rfl 1 (by decide) (List.mem_cons_of_mem _ (inr1 _ (List.mem_of_getElem? (i := 19) rfl))) rfl (dk_at dkX5_mostLeft 17 rfl) ?_
  obtain ⟨tr_8, hq9, hf⟩ := bd1_at hf
  refine r_rwv (As := [.ref (a_nw 0)]) (rest := []) (wr := wV g a_v a_rd a_nw a_tr a_da a_i0 a_i1 a_s0 a_s1 a_s2 a_s3 v_2 ++ wD g a_da da) (ws' := wV g a_v a_rd a_nw a_tr a_da a_i0 a_i1 a_s0 a_s1 a_s2 a_s3 v_2 ++ wC g a_nw nw ++ wC g a_tr tr_8 ++ wD g a_da da) C (kX0_copyTo l g _ a_tr a_nw tr nw tr_8 hq9) (cwV0 C (inr12 _ (List.mem_of_getElem? (i := 6) rfl)) mwX0_copyFrom hdX0_copyFrom ⟨Nat.le_of_ble_eq_true rfl, Nat.le_of_ble_eq_true rfl⟩) hK w hA [16, 17, 18, 19, 20, 21, 22, 23, 24, 25, 26, 5, 6, 7, 8, 9, 10, 11, 12, 13, 14, 15] [0, 1, 2, 3, 4, 27, 28, 29, 30, 31, 32] [0, 1, 2, 3, 4, 22, 23, 24, 25, 26, 27, 28, 29, 30, 31, 32, 11, 12, 13, 14, 15, 16, 17, 18, 19, 20, 21, 5, 6, 7, 8, 9, 10] (by decide) rfl rfl (by decide) (by decide) rfl (by decide) rfl rfl rfl hl.1 rfl (Nat.le_of_ble_eq_true rfl) ⟨Nat.zero_le _, Nat.zero_le _⟩ (dk_at dkX5_mostLeft 18 rfl) (fun H locs w => ?_)
  refine lv_iconst (v := 1) C.1 C.2.1 (dk_at dkX5_mostLeft 19 rfl) (by decide) ?_
  refine lv_istore (lv' := [(5, .int 1), (4, .int 0), (0, .ref (a_v 0)), (1, .int p1), (2, .int p2), (3, .int p3)]) C.1 C.2.1 (dk_at dkX5_mostLeft 20 rfl) hl (by decide) rfl (fun ls hl => ?_)
  have L15 : ∀ (K : Int32 → Int32 → VT → CT → DT → Option (Int32 × VT × CT × DT)), (∀ (v10 : Int32) (v11 : Int32) (v_12 : VT) (tr_13 : CT) (da_14 : DT) (H : Heap) (locs : List Loc) (ls : Array Slot), Wd g A Z.heap (wV g a_v a_rd a_nw a_tr a_da a_i0 a_i1 a_s0 a_s1 a_s2 a_s3 v_12 ++ wC g a_nw nw ++ wC g a_tr tr_13 ++ wD g a_da da_14) H locs → lv_has ls 7 [(4, .int v11)] → K v10 v11 v_12 tr_13 da_14 = some (res, v_o, tr_o, da_o) → W P l E rmX5_mostLeft Z Mi AR BE ME CO H locs 0 0 Q (F0 Mi 123 ls [])) → ∀ (n : Nat), ∀ (v10 : Int32) (v11 : Int32) (v_12 : VT) (tr_13 : CT) (da_14 : DT) (H : Heap) (locs : List Loc) (ls : Array Slot), Wd g A Z.heap (wV g a_v a_rd a_nw a_tr a_da a_i0 a_i1 a_s0 a_s1 a_s2 a_s3 v_12 ++ wC g a_nw nw ++ wC g a_tr tr_13 ++ wD g a_da da_14) H locs → lv_has ls 7 [(5, .int v10), (4, .int v11), (0, .ref (a_v 0)), (1, .int p1), (2, .int p2), (3, .int p3)] → fX5_mostLeft_L41 p1 p2 p3 K n v10 v11 v_12 tr_13 da_14 = some (res, v_o, tr_o, da_o) → W P l E rmX5_mostLeft Z Mi AR BE ME CO H locs 0 0 Q (F0 Mi 41 ls []) := by
    intro K hKe n
    induction n with
    | zero => intro v10 v11 v_12 tr_13 da_14 H locs ls w hl hf; cases hf
    | succ n ih =>
      intro v10 v11 v_12 tr_13 da_14 H locs ls w hl hf
      rw [fX5_mostLeft_L41] at hf
      refine lv_iload C.1 C.2.1 (dk_at dkX5_mostLeft 21 rfl) (lv_at hl 0 rfl) ?_
      refine lv_bipush (v := 9) C.1 C.2.1 (dk_at dkX5_mostLeft 22 rfl) (by decide) ?_
      refine lv_icmp_gt (tgt := 123) C.1 C.2.1 (dk_at dkX5_mostLeft 23 rfl) (by decide) (fun c16 => ?_) (fun c16 => ?_)
      · have hf := (if_pos c16).symm.trans hf
        exact hKe v10 v11 v_12 tr_13 da_14 _ _ _ w (lv_sub hl [1] rfl) hf
      · have hf := (if_neg c16).symm.trans hf
        refine lv_iload_n C.1 C.2.1 (dk_at dkX5_mostLeft 24 rfl) rfl (lv_at hl 4 rfl) ?_
        refine lv_iload C.1 C.2.1 (dk_at dkX5_mostLeft 25 rfl) (lv_at hl 0 rfl) ?_
        refine lv_ishr C.1 C.2.1 (dk_at dkX5_mostLeft 26 rfl) ?_
        refine lv_topi (fun x17 ex17 => ?_)
        have hf := nm_at ex17 hf
        refine lv_iconst (v := 1) C.1 C.2.1 (dk_at dkX5_mostLeft 27 rfl) (by decide) ?_
        refine lv_iand C.1 C.2.1 (dk_at dkX5_mostLeft 28 rfl) ?_
        refine lv_if_eq (tgt := 117) C.1 C.2.1 (dk_at dkX5_mostLeft 29 rfl) (by decide) (fun c18 => ?_) (fun c18 => ?_)
        · have hf := (if_pos c18).symm.trans hf
          obtain ⟨x19, ex19⟩ : ∃ z : Int32, z = v10 + 1 := ⟨_, rfl⟩
          have hf := nm_at ex19 hf
          refine lv_iinc (v := x19) (lv' := [(5, .int x19), (4, .int v11), (0, .ref (a_v 0)), (1, .int p1), (2, .int p2), (3, .int p3)]) C.1 C.2.1 (dk_at dkX5_mostLeft 64 rfl) hl (k := 0) rfl (by rw [ex19]; rfl) (by decide) rfl (fun ls hl => ?_)
          refine lv_goto (tgt := 41) C.1 C.2.1 (dk_at dkX5_mostLeft 65 rfl) (by decide) ?_
          exact ih x19 v11 v_12 tr_13 da_14 _ _ _ w (lv_sub hl [0, 1, 2, 3, 4, 5] rfl) hf
        · have hf := (if_neg c18).symm.trans hf
          refine lv_aload_n C.1 C.2.1 (dk_at dkX5_mostLeft 30 rfl) rfl (lv_at hl 2 rfl) ?_
          refine r_get (v := .ref (a_tr 0)) C hK w.1 (fun w h => List.mem_cons_of_mem _ (inlX5 w h)) 0 rfl rfl 2 (by decide) (List.mem_cons_of_mem _ (inr1 _ (List.mem_of_getElem? (i := 20) rfl))) rfl (dk_at dkX5_mostLeft 31 rfl) ?_
          refine r_get (v := .ref (a_tr 2)) C hK w.1 (fun w h => List.mem_cons_of_mem _ (inlX0 w h)) 16 rfl rfl 2 (by decide) (List.mem_cons_of_mem _ (inr17 _ (List.mem_of_getElem? (i := 21) rfl))) rfl (dk_at dkX5_mostLeft 32 rfl) ?_
          refine lv_iload_n C.1 C.2.1 (dk_at dkX5_mostLeft 33 rfl) rfl (lv_at hl 3 rfl) ?_
          obtain ⟨h20, hf⟩ := gd_at hf
          refine r_aldr (b := a_tr (3 + p1.toNatClampNeg)) C hK w.1 18 rfl h20 rfl (dk_at dkX5_mostLeft 34 rfl) ?_
          have h21 := in_lt h20
          refine lv_iconst (v := 3) C.1 C.2.1 (dk_at dkX5_mostLeft 35 rfl) (by decide) ?_
          refine lv_iload C.1 C.2.1 (dk_at dkX5_mostLeft 36 rfl) (lv_at hl 0 rfl) ?_
          refine r_iast (k := 3) (a := a_tr (3 + p1.toNatClampNeg)) (n := 5) (f := cTo tr_13 p1.toNatClampNeg) C hK w (16 + (3 + p1.toNatClampNeg)) (by rcases lt5 h21 with h5 | h5 | h5 | h5 | h5 <;> rw [h5] <;> rfl) (in_c (by decide)) (by decide) (dk_at dkX5_mostLeft 37 rfl) (fun H locs w => ?_)
          obtain ⟨tr_22, etr_22⟩ : ∃ z : CT, z = cTo' tr_13 (va_up (cTo tr_13) p1.toNatClampNeg (upd (cTo tr_13 p1.toNatClampNeg) 3 v10)) := ⟨_, rfl⟩
          have hf := nm_at etr_22 hf
          have w : Wd g A Z.heap (wV g a_v a_rd a_nw a_tr a_da a_i0 a_i1 a_s0 a_s1 a_s2 a_s3 v_12 ++ wC g a_nw nw ++ wC g a_tr tr_22 ++ wD g a_da da_14) H locs := by rw [etr_22]; rcases lt5 h21 with h5 | h5 | h5 | h5 | h5 <;> (rw [h5] at w; rw [h5]; exact w)
          refine lv_aload_n C.1 C.2.1 (dk_at dkX5_mostLeft 38 rfl) rfl (lv_at hl 2 rfl) ?_
          refine r_get (v := .ref (a_da 0)) C hK w.1 (fun w h => List.mem_cons_of_mem _ (inlX5 w h)) 0 rfl rfl 3 (by decide) (List.mem_cons_of_mem _ (inr2 _ (List.mem_of_getElem? (i := 0) rfl))) rfl (dk_at dkX5_mostLeft 39 rfl) ?_
          refine lv_aload_n C.1 C.2.1 (dk_at dkX5_mostLeft 40 rfl) rfl (lv_at hl 2 rfl) ?_
          refine r_get (v := .ref (a_tr 0)) C hK w.1 (fun w h => List.mem_cons_of_mem _ (inlX5 w h)) 0 rfl rfl 2 (by decide) (List.mem_cons_of_mem _ (inr1 _ (List.mem_of_getElem? (i := 20) rfl))) rfl (dk_at dkX5_mostLeft 41 rfl) ?_
          obtain ⟨da_23, hq24, hf⟩ := bd1_at hf
          refine r_rwv (As := [.ref (a_tr 0)]) (rest := []) (wr := wV g a_v a_rd a_nw a_tr a_da a_i0 a_i1 a_s0 a_s1 a_s2 a_s3 v_12 ++ wC g a_nw nw) (ws' := wV g a_v a_rd a_nw a_tr a_da a_i0 a_i1 a_s0 a_s1 a_s2 a_s3 v_12 ++ wC g a_nw nw ++ wC g a_tr tr_22 ++ wD g a_da da_23) C (kX1_pass l g _ a_da a_tr da_14 tr_22 da_23 hq24) (cwV0 C (inr23 _ (List.mem_of_getElem? (i := 7) rfl)) mwX1_pass hdX1_pass ⟨Nat.le_of_ble_eq_true rfl, Nat.le_of_ble_eq_true rfl⟩) hK w hA [27, 28, 29, 30, 31, 32, 16, 17, 18, 19, 20, 21, 22, 23, 24, 25, 26] [0, 1, 2, 3, 4, 5, 6, 7, 8, 9, 10, 11, 12, 13, 14, 15] [0, 1, 2, 3, 4, 5, 6, 7, 8, 9, 10, 11, 12, 13, 14, 15, 22, 23, 24, 25, 26, 27, 28, 29, 30, 31, 32, 16, 17, 18, 19, 20, 21] (by decide) rfl rfl (by decide) (by decide) rfl (by decide) rfl rfl rfl hl.1 rfl (Nat.le_of_ble_eq_true rfl) ⟨Nat.zero_le _, Nat.zero_le _⟩ (dk_at dkX5_mostLeft 42 rfl) (fun H locs w => ?_)
          refine lv_aload_n C.1 C.2.1 (dk_at dkX5_mostLeft 43 rfl) rfl (lv_at hl 2 rfl) ?_
          refine r_get (v := .ref (a_da 0)) C hK w.1 (fun w h => List.mem_cons_of_mem _ (inlX5 w h)) 0 rfl rfl 3 (by decide) (List.mem_cons_of_mem _ (inr2 _ (List.mem_of_getElem? (i := 0) rfl))) rfl (dk_at dkX5_mostLeft 44 rfl) ?_
          refine r_get (v := .ref (a_da 1)) C hK w.1 (fun w h => List.mem_cons_of_mem _ (inlX1 w h)) 27 rfl rfl 0 (by decide) (List.mem_cons_of_mem _ (inr23 _ (List.mem_of_getElem? (i := 4) rfl))) rfl (dk_at dkX5_mostLeft 45 rfl) ?_
          refine lv_iload_n C.1 C.2.1 (dk_at dkX5_mostLeft 46 rfl) rfl (lv_at hl 5 rfl) ?_
          obtain ⟨h25, hf⟩ := gd_at hf
          refine r_iald (k := p3.toNatClampNeg) (f := (dPl da_23)) C hK w.1 28 rfl h25 rfl (dk_at dkX5_mostLeft 47 rfl) ?_
          refine lv_topi (fun x26 ex26 => ?_)
          have hf := nm_at ex26 hf
          refine lv_istore (lv' := [(6, .int x26), (5, .int v10), (4, .int v11), (0, .ref (a_v 0)), (1, .int p1), (2, .int p2), (3, .int p3)]) C.1 C.2.1 (dk_at dkX5_mostLeft 48 rfl) hl (by decide) rfl (fun ls hl => ?_)
          refine lv_aload_n C.1 C.2.1 (dk_at dkX5_mostLeft 49 rfl) rfl (lv_at hl 3 rfl) ?_
          refine r_get (v := .ref (a_v 1)) C hK w.1 (fun w h => List.mem_cons_of_mem _ (inlX5 w h)) 0 rfl rfl 4 (by decide) (List.mem_cons_of_mem _ (inr2 _ (List.mem_of_getElem? (i := 2) rfl))) rfl (dk_at dkX5_mostLeft 50 rfl) ?_
          refine lv_iload C.1 C.2.1 (dk_at dkX5_mostLeft 51 rfl) (lv_at hl 0 rfl) ?_
          refine lv_dup2_11 C.1 C.2.1 (dk_at dkX5_mostLeft 52 rfl) rfl rfl ?_
          obtain ⟨h27, hf⟩ := gd_at hf
          refine r_iald (k := x26.toNatClampNeg) (f := (vTa v_12)) C hK w.1 1 rfl h27 rfl (dk_at dkX5_mostLeft 53 rfl) ?_
          refine lv_topi (fun x28 ex28 => ?_)
          have hf := nm_at ex28 hf
          refine lv_iconst (v := 1) C.1 C.2.1 (dk_at dkX5_mostLeft 54 rfl) (by decide) ?_
          refine lv_iadd C.1 C.2.1 (dk_at dkX5_mostLeft 55 rfl) ?_
          refine lv_topi (fun x29 ex29 => ?_)
          have hf := nm_at ex29 hf
          obtain ⟨h30, hf⟩ := gd_at hf
          refine r_iast (k := x26.toNatClampNeg) (f := (vTa v_12)) C hK w 1 rfl h30 rfl (dk_at dkX5_mostLeft 56 rfl) (fun H locs w => ?_)
          obtain ⟨v_31, ev_31⟩ : ∃ z : VT, z = vTa' v_12 (upd (vTa v_12) x26.toNatClampNeg x29) := ⟨_, rfl⟩
          have hf := nm_at ev_31 hf
          have w : Wd g A Z.heap (wV g a_v a_rd a_nw a_tr a_da a_i0 a_i1 a_s0 a_s1 a_s2 a_s3 v_31 ++ wC g a_nw nw ++ wC g a_tr tr_22 ++ wD g a_da da_23) H locs := by rw [ev_31]; exact w
          refine lv_iload C.1 C.2.1 (dk_at dkX5_mostLeft 57 rfl) (lv_at hl 2 rfl) ?_
          refine lv_aload_n C.1 C.2.1 (dk_at dkX5_mostLeft 58 rfl) rfl (lv_at hl 3 rfl) ?_
          refine r_get (v := .ref (a_v 1)) C hK w.1 (fun w h => List.mem_cons_of_mem _ (inlX5 w h)) 0 rfl rfl 4 (by decide) (List.mem_cons_of_mem _ (inr2 _ (List.mem_of_getElem? (i := 2) rfl))) rfl (dk_at dkX5_mostLeft 59 rfl) ?_
          refine lv_iload C.1 C.2.1 (dk_at dkX5_mostLeft 60 rfl) (lv_at hl 0 rfl) ?_
          obtain ⟨h32, hf⟩ := gd_at hf
          refine r_iald (k := x26.toNatClampNeg) (f := (vTa v_31)) C hK w.1 1 rfl h32 rfl (dk_at dkX5_mostLeft 61 rfl) ?_
          refine lv_topi (fun x33 ex33 => ?_)
          have hf := nm_at ex33 hf
          refine va_mmax C.1 C.2.1 (C.2.2.1.trans hl.1.symm) C.2.2.2.1 (C.2.2.2.2 _ (List.mem_cons_of_mem _ (inr37 _ (List.mem_of_getElem? (i := 20) rfl)))) (C.2.2.2.2 _ (List.mem_cons_of_mem _ (inr37 _ (List.mem_of_getElem? (i := 21) rfl)))) (C.2.2.2.2 _ (List.mem_cons_of_mem _ (inr24 _ (List.mem_of_getElem? (i := 4) rfl)))) (C.2.2.2.2 _ (List.mem_cons_of_mem _ (inr37 _ (List.mem_of_getElem? (i := 22) rfl)))) (Nat.le_of_ble_eq_true rfl) (Nat.le_of_ble_eq_true rfl) (Nat.zero_le _) (Nat.zero_le _) (dk_at dkX5_mostLeft 62 rfl) ?_
          refine lv_topi (fun x34 ex34 => ?_)
          have hf := nm_at ex34 hf
          refine lv_istore (lv' := [(4, .int x34), (6, .int x26), (5, .int v10), (0, .ref (a_v 0)), (1, .int p1), (2, .int p2), (3, .int p3)]) C.1 C.2.1 (dk_at dkX5_mostLeft 63 rfl) hl (by decide) rfl (fun ls hl => ?_)
          obtain ⟨x35, ex35⟩ : ∃ z : Int32, z = v10 + 1 := ⟨_, rfl⟩
          have hf := nm_at ex35 hf
          refine lv_iinc (v := x35) (lv' := [(5, .int x35), (4, .int x34), (6, .int x26), (0, .ref (a_v 0)), (1, .int p1), (2, .int p2), (3, .int p3)]) C.1 C.2.1 (dk_at dkX5_mostLeft 64 rfl) hl (k := 2) rfl (by rw [ex35]; rfl) (by decide) rfl (fun ls hl => ?_)
          refine lv_goto (tgt := 41) C.1 C.2.1 (dk_at dkX5_mostLeft 65 rfl) (by decide) ?_
          exact ih x35 x34 v_31 tr_22 da_23 _ _ _ w (lv_sub hl [0, 1, 3, 4, 5, 6] rfl) hf
  refine L15 _ ?_ 4096 1 0 v_2 tr_8 da _ _ _ w (lv_sub hl [0, 1, 2, 3, 4, 5] rfl) hf
  clear hf
  intro v10 v11 v_12 tr_13 da_14 H locs ls w hl hf
  refine lv_iload C.1 C.2.1 (dk_at dkX5_mostLeft 66 rfl) (lv_at hl 0 rfl) ?_
  cases hf
  exact fin _ _ _ _ _ (dk_at dkX5_mostLeft 67 rfl) rfl w
-- X5.look
abbrev tbX5_look : List (Nat × Instr × Nat) := [(0, .aload_n 0, 1), (1, .getfield 19, 3), (4, .iload_n 1, 1), (5, .invokevirtual 96, 3), (8, .ifCond .eq 12, 3), (11, .iload_n 2, 1), (12, .ifCond .lt 8, 3), (15, .iload_n 2, 1), (16, .iconst 1, 1), (17, .if_icmp .le 5, 3), (20, .iconst (-1), 1), (21, .ireturn, 1), (22, .aload_n 0, 1), (23, .iload_n 1, 1), (24, .iconst 3, 1), (25, .iconst 1, 1), (26, .bipush 9, 2), (28, .invokevirtual 218, 3), (31, .istore_n 3, 1), (32, .bipush (-4), 2), (34, .istore 4, 2), (36, .iload_n 3, 1), (37, .invokestatic 168, 3), (40, .istore 5, 2), (42, .iconst 0, 1), (43, .istore 6, 2), (45, .iload 6, 2), (47, .aload_n 0, 1), (48, .getfield 19, 3), (51, .getfield 77, 3), (54, .if_icmp .ge 34, 3), (57, .aload_n 0, 1), (58, .iload_n 1, 1), (59, .iload_n 3, 1), (60, .iload 6, 2), (62, .invokevirtual 226, 3), (65, .istore 7, 2), (67, .iload 7, 2), (69, .iload 5, 2), (71, .if_icmp .ge 11, 3), (74, .iload 6, 2), (76, .istore 4, 2), (78, .iload 7, 2), (80, .istore 5, 2), (82, .iinc 6 1, 3), (85, .goto (-40), 3), (88, .iload_n 2, 1), (89, .ifCond .eq 10, 3), (92, .iload 4, 2), (94, .bipush (-4), 2), (96, .if_icmp .ne 8, 3), (99, .iload 4, 2), (101, .goto 5, 3), (104, .iload 5, 2), (106, .ireturn, 1)]
theorem dkX5_look : dk cX5_look tbX5_look := dk_of (by decide +kernel)
abbrev cdX5_look : Cond := Cond.code yX5_look cX5_look 8 (some .int)
abbrev rmX5_look : Room := { frames := 5, cells := 0, slots := 0, locals := 119 }
theorem mwX5_look : Cond.instanceMethod yX5_look ∈ wsL_law ∧ Cond.selects RX5 yX5_look yX5_look ∈ wsL_law ∧ Cond.initialized RX5 ∈ wsL_law ∧ cdX5_look ∈ wsL_law := ⟨inr37 _ (List.mem_of_getElem? (i := 13) rfl), inr37 _ (List.mem_of_getElem? (i := 14) rfl), inr1 _ (List.mem_of_getElem? (i := 2) rfl), inr37 _ (List.mem_of_getElem? (i := 15) rfl)⟩
theorem hdX5_look : yX5_look.cls = RX5 ∧ yX5_look.cls ≠ "java/lang/invoke/MethodHandle" ∧ yX5_look.cls ≠ "java/lang/invoke/VarHandle" ∧ (parseMethodDescriptor yX5_look.desc).map (fun d => d.parameters.length) = some 2 := by decide +kernel
set_option maxHeartbeats 4000000 in
set_option maxRecDepth 100000 in
theorem kX5_look (l : Launch) (g : Gx) (sz : Nat) (a_v a_rd a_nw a_tr a_da a_i0 a_i1 a_s0 a_s1 a_s2 a_s3 : Nat → Nat) (v : VT) (nw : CT) (tr : CT) (da : DT) (p1 : Int32) (p2 : Int32) (res : Int32) (v_o : VT) (tr_o : CT) (da_o : DT) (hf : fX5_look p1 p2 v nw tr da = some (res, v_o, tr_o, da_o)) : Met l yX5_look (cdX5_look :: wsL_law) rmX5_look (va_Pc [.ref (a_v 0), .int p1, .int p2] (RWp g sz (wV g a_v a_rd a_nw a_tr a_da a_i0 a_i1 a_s0 a_s1 a_s2 a_s3 v ++ wC g a_nw nw ++ wC g a_tr tr ++ wD g a_da da))) (va_Qi (fun x (_ : Unit) => x = res) (fun _ => RWq g (va_A (wV g a_v a_rd a_nw a_tr a_da a_i0 a_i1 a_s0 a_s1 a_s2 a_s3 v ++ wC g a_nw nw ++ wC g a_tr tr ++ wD g a_da da) sz) (wV g a_v a_rd a_nw a_tr a_da a_i0 a_i1 a_s0 a_s1 a_s2 a_s3 v_o ++ wC g a_nw nw ++ wC g a_tr tr_o ++ wD g a_da da_o)) (va_A (wV g a_v a_rd a_nw a_tr a_da a_i0 a_i1 a_s0 a_s1 a_s2 a_s3 v ++ wC g a_nw nw ++ wC g a_tr tr ++ wD g a_da da) sz)) 0 0 (va_A (wV g a_v a_rd a_nw a_tr a_da a_i0 a_i1 a_s0 a_s1 a_s2 a_s3 v ++ wC g a_nw nw ++ wC g a_tr tr ++ wD g a_da da) sz) := by
  refine Met_rwi (cc := cX5_look) (maxL := 8) (by decide) rfl (Nat.le_of_ble_eq_true rfl) ?_
  intro P E Z Mi AR BE ME CO A Q C hK hA fin w ls hl
  have hl : lv_has ls 8 [(0, .ref (a_v 0)), (1, .int p1), (2, .int p2)] := hl
  unfold fX5_look at hf
  refine lv_aload_n C.1 C.2.1 (dk_at dkX5_look 0 rfl) rfl (lv_at hl 0 rfl) ?_
  refine r_get (v := .ref (a_nw 0)) C hK w.1 (fun w h => List.mem_cons_of_mem _ (inlX5 w h)) 0 rfl rfl 1 (by decide) (List.mem_cons_of_mem _ (inr1 _ (List.mem_of_getElem? (i := 19) rfl))) rfl (dk_at dkX5_look 1 rfl) ?_
  refine lv_iload_n C.1 C.2.1 (dk_at dkX5_look 2 rfl) rfl (lv_at hl 1 rfl) ?_
  obtain ⟨r1, hq2, hf⟩ := bd1_at hf
  refine r_roV (As := [.int p1]) (rest := []) C (kX0_isSaying l g a_nw nw p1 r1 hq2) (cwV0 C (inr17 _ (List.mem_of_getElem? (i := 22) rfl)) mwX0_isSaying hdX0_isSaying ⟨Nat.le_of_ble_eq_true rfl, Nat.le_of_ble_eq_true rfl⟩) hK (w.1.sub [5, 6, 7, 8, 9, 10, 11, 12, 13, 14, 15] rfl) rfl rfl rfl hl.1 rfl (Nat.le_of_ble_eq_true rfl) ⟨Nat.zero_le _, Nat.zero_le _⟩ (dk_at dkX5_look 3 rfl) ?_
  refine lv_if_eq (tgt := 20) C.1 C.2.1 (dk_at dkX5_look 4 rfl) (by decide) (fun c3 => ?_) (fun c3 => ?_)
  · have hf := (if_pos c3).symm.trans hf
    refine lv_iconst (v := (-1)) C.1 C.2.1 (dk_at dkX5_look 10 rfl) (by decide) ?_
    cases hf
    exact fin _ _ _ _ _ (dk_at dkX5_look 11 rfl) rfl w
  · have hf := (if_neg c3).symm.trans hf
    refine lv_iload_n C.1 C.2.1 (dk_at dkX5_look 5 rfl) rfl (lv_at hl 2 rfl) ?_
    refine lv_if_lt (tgt := 20) C.1 C.2.1 (dk_at dkX5_look 6 rfl) (by decide) (fun c4 => ?_) (fun c4 => ?_)
    · have hf := (if_pos c4).symm.trans hf
      refine lv_iconst (v := (-1)) C.1 C.2.1 (dk_at dkX5_look 10 rfl) (by decide) ?_
      cases hf
      exact fin _ _ _ _ _ (dk_at dkX5_look 11 rfl) rfl w
    · have hf := (if_neg c4).symm.trans hf
      refine lv_iload_n C.1 C.2.1 (dk_at dkX5_look 7 rfl) rfl (lv_at hl 2 rfl) ?_
      refine lv_iconst (v := 1) C.1 C.2.1 (dk_at dkX5_look 8 rfl) (by decide) ?_
      refine lv_icmp_le (tgt := 22) C.1 C.2.1 (dk_at dkX5_look 9 rfl) (by decide) (fun c5 => ?_) (fun c5 => ?_)
      · have hf := (if_pos c5).symm.trans hf
        refine lv_aload_n C.1 C.2.1 (dk_at dkX5_look 12 rfl) rfl (lv_at hl 0 rfl) ?_
        refine lv_iload_n C.1 C.2.1 (dk_at dkX5_look 13 rfl) rfl (lv_at hl 1 rfl) ?_
        refine lv_iconst (v := 3) C.1 C.2.1 (dk_at dkX5_look 14 rfl) (by decide) ?_
        refine lv_iconst (v := 1) C.1 C.2.1 (dk_at dkX5_look 15 rfl) (by decide) ?_
        refine lv_bipush (v := 9) C.1 C.2.1 (dk_at dkX5_look 16 rfl) (by decide) ?_
        obtain ⟨r6, tr_7, da_8, hq9, hf⟩ := bd3_at hf
        refine r_rwi (As := [.int p1, .int 3, .int 1, .int 9]) (rest := []) (wr := []) (ws' := wV g a_v a_rd a_nw a_tr a_da a_i0 a_i1 a_s0 a_s1 a_s2 a_s3 v ++ wC g a_nw nw ++ wC g a_tr tr_7 ++ wD g a_da da_8) C (kX5_asSeenBy l g _ a_v a_rd a_nw a_tr a_da a_i0 a_i1 a_s0 a_s1 a_s2 a_s3 v nw tr da p1 3 1 9 r6 tr_7 da_8 hq9) (cwV0 C (inr36 _ (List.mem_of_getElem? (i := 1) rfl)) mwX5_asSeenBy hdX5_asSeenBy ⟨Nat.le_of_ble_eq_true rfl, Nat.le_of_ble_eq_true rfl⟩) hK w hA [0, 1, 2, 3, 4, 5, 6, 7, 8, 9, 10, 11, 12, 13, 14, 15, 16, 17, 18, 19, 20, 21, 22, 23, 24, 25, 26, 27, 28, 29, 30, 31, 32] [] [0, 1, 2, 3, 4, 5, 6, 7, 8, 9, 10, 11, 12, 13, 14, 15, 16, 17, 18, 19, 20, 21, 22, 23, 24, 25, 26, 27, 28, 29, 30, 31, 32] (by decide) rfl rfl (by decide) (by decide) rfl (by decide) rfl rfl rfl hl.1 rfl (Nat.le_of_ble_eq_true rfl) ⟨Nat.zero_le _, Nat.zero_le _⟩ (dk_at dkX5_look 17 rfl) (fun H locs w => ?_)
        refine lv_istore_n (lv' := [(3, .int r6), (0, .ref (a_v 0)), (1, .int p1), (2, .int p2)]) C.1 C.2.1 (dk_at dkX5_look 18 rfl) rfl hl (by decide) rfl (fun ls hl => ?_)
        refine lv_bipush (v := (-4)) C.1 C.2.1 (dk_at dkX5_look 19 rfl) (by decide) ?_
        refine lv_istore (lv' := [(4, .int (-4)), (3, .int r6), (0, .ref (a_v 0)), (1, .int p1), (2, .int p2)]) C.1 C.2.1 (dk_at dkX5_look 20 rfl) hl (by decide) rfl (fun ls hl => ?_)
        refine lv_iload_n C.1 C.2.1 (dk_at dkX5_look 21 rfl) rfl (lv_at hl 1 rfl) ?_
        obtain ⟨r10, hq11, hf⟩ := bd1_at hf
        refine r_st (As := [.int r6]) (rest := []) C (kJ6_bitCount_0f7a4 l r6 r10 hq11) (cwS0 C (inr28 _ (List.mem_of_getElem? (i := 14) rfl)) mwJ6_bitCount_0f7a4 hdJ6_bitCount_0f7a4 ⟨Nat.le_of_ble_eq_true rfl, Nat.le_of_ble_eq_true rfl⟩) rfl hl.1 rfl (Nat.le_of_ble_eq_true rfl) ⟨Nat.zero_le _, Nat.zero_le _⟩ (dk_at dkX5_look 22 rfl) ?_
        refine lv_istore (lv' := [(5, .int r10), (4, .int (-4)), (3, .int r6), (0, .ref (a_v 0)), (1, .int p1), (2, .int p2)]) C.1 C.2.1 (dk_at dkX5_look 23 rfl) hl (by decide) rfl (fun ls hl => ?_)
        refine lv_iconst (v := 0) C.1 C.2.1 (dk_at dkX5_look 24 rfl) (by decide) ?_
        refine lv_istore (lv' := [(6, .int 0), (5, .int r10), (4, .int (-4)), (3, .int r6), (0, .ref (a_v 0)), (1, .int p1), (2, .int p2)]) C.1 C.2.1 (dk_at dkX5_look 25 rfl) hl (by decide) rfl (fun ls hl => ?_)
        have L18 : ∀ (K : Int32 → Int32 → Int32 → VT → CT → DT → Option (Int32 × VT × CT × DT)), (∀ (v12 : Int32) (v13 : Int32) (v14 : Int32) (v_15 : VT) (tr_16 : CT) (da_17 : DT) (H : Heap) (locs : List Loc) (ls : Array Slot), Wd g A Z.heap (wV g a_v a_rd a_nw a_tr a_da a_i0 a_i1 a_s0 a_s1 a_s2 a_s3 v_15 ++ wC g a_nw nw ++ wC g a_tr tr_16 ++ wD g a_da da_17) H locs → lv_has ls 8 [(5, .int v13), (4, .int v14), (2, .int p2)] → K v12 v13 v14 v_15 tr_16 da_17 = some (res, v_o, tr_o, da_o) → W P l E rmX5_look Z Mi AR BE ME CO H locs 0 0 Q (F0 Mi 88 ls [])) → ∀ (n : Nat), ∀ (v12 : Int32) (v13 : Int32) (v14 : Int32) (v_15 : VT) (tr_16 : CT) (da_17 : DT) (H : Heap) (locs : List Loc) (ls : Array Slot), Wd g A Z.heap (wV g a_v a_rd a_nw a_tr a_da a_i0 a_i1 a_s0 a_s1 a_s2 a_s3 v_15 ++ wC g a_nw nw ++ wC g a_tr tr_16 ++ wD g a_da da_17) H locs → lv_has ls 8 [(6, .int v12), (5, .int v13), (4, .int v14), (3, .int r6), (0, .ref (a_v 0)), (1, .int p1), (2, .int p2)] → fX5_look_L45 nw p1 r6 K n v12 v13 v14 v_15 tr_16 da_17 = some (res, v_o, tr_o, da_o) → W P l E rmX5_look Z Mi AR BE ME CO H locs 0 0 Q (F0 Mi 45 ls []) := by
          intro K hKe n
          induction n with
          | zero => intro v12 v13 v14 v_15 tr_16 da_17 H locs ls w hl hf; cases hf
          | succ n ih =>
            intro v12 v13 v14 v_15 tr_16 da_17 H locs ls w hl hf
            rw [fX5_look_L45] at hf
            refine lv_iload C.1 C.2.1 (dk_at dkX5_look 26 rfl) (lv_at hl 0 rfl) ?_
            refine lv_aload_n C.1 C.2.1 (dk_at dkX5_look 27 rfl) rfl (lv_at hl 4 rfl) ?_
            refine r_get (v := .ref (a_nw 0)) C hK w.1 (fun w h => List.mem_cons_of_mem _ (inlX5 w h)) 0 rfl rfl 1 (by decide) (List.mem_cons_of_mem _ (inr1 _ (List.mem_of_getElem? (i := 19) rfl))) rfl (dk_at dkX5_look 28 rfl) ?_
            refine r_get (v := .int (cSa nw)) C hK w.1 (fun w h => List.mem_cons_of_mem _ (inlX0 w h)) 5 rfl rfl 3 (by decide) (List.mem_cons_of_mem _ (inr16 _ (List.mem_of_getElem? (i := 15) rfl))) rfl (dk_at dkX5_look 29 rfl) ?_
            refine lv_icmp_ge (tgt := 88) C.1 C.2.1 (dk_at dkX5_look 30 rfl) (by decide) (fun c19 => ?_) (fun c19 => ?_)
            · have hf := (if_pos c19).symm.trans hf
              exact hKe v12 v13 v14 v_15 tr_16 da_17 _ _ _ w (lv_sub hl [1, 2, 6] rfl) hf
            · have hf := (if_neg c19).symm.trans hf
              refine lv_aload_n C.1 C.2.1 (dk_at dkX5_look 31 rfl) rfl (lv_at hl 4 rfl) ?_
              refine lv_iload_n C.1 C.2.1 (dk_at dkX5_look 32 rfl) rfl (lv_at hl 5 rfl) ?_
              refine lv_iload_n C.1 C.2.1 (dk_at dkX5_look 33 rfl) rfl (lv_at hl 3 rfl) ?_
              refine lv_iload C.1 C.2.1 (dk_at dkX5_look 34 rfl) (lv_at hl 0 rfl) ?_
              obtain ⟨r20, v_21, tr_22, da_23, hq24, hf⟩ := bd4_at hf
              refine r_rwi (As := [.int p1, .int r6, .int v12]) (rest := []) (wr := []) (ws' := wV g a_v a_rd a_nw a_tr a_da a_i0 a_i1 a_s0 a_s1 a_s2 a_s3 v_21 ++ wC g a_nw nw ++ wC g a_tr tr_22 ++ wD g a_da da_23) C (kX5_mostLeft l g _ a_v a_rd a_nw a_tr a_da a_i0 a_i1 a_s0 a_s1 a_s2 a_s3 v_15 nw tr_16 da_17 p1 r6 v12 r20 v_21 tr_22 da_23 hq24) (cwV0 C (inr37 _ (List.mem_of_getElem? (i := 16) rfl)) mwX5_mostLeft hdX5_mostLeft ⟨Nat.le_of_ble_eq_true rfl, Nat.le_of_ble_eq_true rfl⟩) hK w hA [0, 1, 2, 3, 4, 5, 6, 7, 8, 9, 10, 11, 12, 13, 14, 15, 16, 17, 18, 19, 20, 21, 22, 23, 24, 25, 26, 27, 28, 29, 30, 31, 32] [] [0, 1, 2, 3, 4, 5, 6, 7, 8, 9, 10, 11, 12, 13, 14, 15, 16, 17, 18, 19, 20, 21, 22, 23, 24, 25, 26, 27, 28, 29, 30, 31, 32] (by decide) rfl rfl (by decide) (by decide) rfl (by decide) rfl rfl rfl hl.1 rfl (Nat.le_of_ble_eq_true rfl) ⟨Nat.zero_le _, Nat.zero_le _⟩ (dk_at dkX5_look 35 rfl) (fun H locs w => ?_)
              refine lv_istore (lv' := [(7, .int r20), (6, .int v12), (5, .int v13), (4, .int v14), (3, .int r6), (0, .ref (a_v 0)), (1, .int p1), (2, .int p2)]) C.1 C.2.1 (dk_at dkX5_look 36 rfl) hl (by decide) rfl (fun ls hl => ?_)
              refine lv_iload C.1 C.2.1 (dk_at dkX5_look 37 rfl) (lv_at hl 0 rfl) ?_
              refine lv_iload C.1 C.2.1 (dk_at dkX5_look 38 rfl) (lv_at hl 2 rfl) ?_
              refine lv_icmp_ge (tgt := 82) C.1 C.2.1 (dk_at dkX5_look 39 rfl) (by decide) (fun c25 => ?_) (fun c25 => ?_)
              · have hf := (if_pos c25).symm.trans hf
                obtain ⟨x26, ex26⟩ : ∃ z : Int32, z = v12 + 1 := ⟨_, rfl⟩
                have hf := nm_at ex26 hf
                refine lv_iinc (v := x26) (lv' := [(6, .int x26), (7, .int r20), (5, .int v13), (4, .int v14), (3, .int r6), (0, .ref (a_v 0)), (1, .int p1), (2, .int p2)]) C.1 C.2.1 (dk_at dkX5_look 44 rfl) hl (k := 1) rfl (by rw [ex26]; rfl) (by decide) rfl (fun ls hl => ?_)
                refine lv_goto (tgt := 45) C.1 C.2.1 (dk_at dkX5_look 45 rfl) (by decide) ?_
                exact ih x26 v13 v14 v_21 tr_22 da_23 _ _ _ w (lv_sub hl [0, 2, 3, 4, 5, 6, 7] rfl) hf
              · have hf := (if_neg c25).symm.trans hf
                refine lv_iload C.1 C.2.1 (dk_at dkX5_look 40 rfl) (lv_at hl 1 rfl) ?_
                refine lv_istore (lv' := [(4, .int v12), (7, .int r20), (6, .int v12), (5, .int v13), (3, .int r6), (0, .ref (a_v 0)), (1, .int p1), (2, .int p2)]) C.1 C.2.1 (dk_at dkX5_look 41 rfl) hl (by decide) rfl (fun ls hl => ?_)
                refine lv_iload C.1 C.2.1 (dk_at dkX5_look 42 rfl) (lv_at hl 1 rfl) ?_
                refine lv_istore (lv' := [(5, .int r20), (4, .int v12), (7, .int r20), (6, .int v12), (3, .int r6), (0, .ref (a_v 0)), (1, .int p1), (2, .int p2)]) C.1 C.2.1 (dk_at dkX5_look 43 rfl) hl (by decide) rfl (fun ls hl => ?_)
                obtain ⟨x27, ex27⟩ : ∃ z : Int32, z = v12 + 1 := ⟨_, rfl⟩
                have hf := nm_at ex27 hf
                refine lv_iinc (v := x27) (lv' := [(6, .int x27), (5, .int r20), (4, .int v12), (7, .int r20), (3, .int r6), (0, .ref (a_v 0)), (1, .int p1), (2, .int p2)]) C.1 C.2.1 (dk_at dkX5_look 44 rfl) hl (k := 3) rfl (by rw [ex27]; rfl) (by decide) rfl (fun ls hl => ?_)
                refine lv_goto (tgt := 45) C.1 C.2.1 (dk_at dkX5_look 45 rfl) (by decide) ?_
                exact ih x27 r20 v12 v_21 tr_22 da_23 _ _ _ w (lv_sub hl [0, 1, 2, 4, 5, 6, 7] rfl) hf
        refine L18 _ ?_ 4096 0 r10 (-4) v tr_7 da_8 _ _ _ w (lv_sub hl [0, 1, 2, 3, 4, 5, 6] rfl) hf
        clear hf
        intro v12 v13 v14 v_15 tr_16 da_17 H locs ls w hl hf
        refine lv_iload_n C.1 C.2.1 (dk_at dkX5_look 46 rfl) rfl (lv_at hl 2 rfl) ?_
        refine lv_if_eq (tgt := 99) C.1 C.2.1 (dk_at dkX5_look 47 rfl) (by decide) (fun c28 => ?_) (fun c28 => ?_)
        · have hf := (if_pos c28).symm.trans hf
          refine lv_iload C.1 C.2.1 (dk_at dkX5_look 51 rfl) (lv_at hl 1 rfl) ?_
          refine lv_goto (tgt := 106) C.1 C.2.1 (dk_at dkX5_look 52 rfl) (by decide) ?_
          cases hf
          exact fin _ _ _ _ _ (dk_at dkX5_look 54 rfl) rfl w
        · have hf := (if_neg c28).symm.trans hf
          refine lv_iload C.1 C.2.1 (dk_at dkX5_look 48 rfl) (lv_at hl 1 rfl) ?_
          refine lv_bipush (v := (-4)) C.1 C.2.1 (dk_at dkX5_look 49 rfl) (by decide) ?_
          refine lv_icmp_ne (tgt := 104) C.1 C.2.1 (dk_at dkX5_look 50 rfl) (by decide) (fun c29 => ?_) (fun c29 => ?_)
          · have hf := (if_neg c29).symm.trans hf
            refine lv_iload C.1 C.2.1 (dk_at dkX5_look 53 rfl) (lv_at hl 0 rfl) ?_
            cases hf
            exact fin _ _ _ _ _ (dk_at dkX5_look 54 rfl) rfl w
          · have hf := (if_pos c29).symm.trans hf
            refine lv_iload C.1 C.2.1 (dk_at dkX5_look 51 rfl) (lv_at hl 1 rfl) ?_
            refine lv_goto (tgt := 106) C.1 C.2.1 (dk_at dkX5_look 52 rfl) (by decide) ?_
            cases hf
            exact fin _ _ _ _ _ (dk_at dkX5_look 54 rfl) rfl w
      · have hf := (if_neg c5).symm.trans hf
        refine lv_iconst (v := (-1)) C.1 C.2.1 (dk_at dkX5_look 10 rfl) (by decide) ?_
        cases hf
        exact fin _ _ _ _ _ (dk_at dkX5_look 11 rfl) rfl w
-- X5.drift
abbrev tbX5_drift : List (Nat × Instr × Nat) := [(0, .iload_n 2, 1), (1, .iconst 1, 1), (2, .if_icmp .lt 18, 3), (5, .iload_n 2, 1), (6, .bipush 60, 2), (8, .if_icmp .gt 12, 3), (11, .iload_n 3, 1), (12, .ifCond .lt 8, 3), (15, .iload_n 3, 1), (16, .iconst 1, 1), (17, .if_icmp .le 5, 3), (20, .iconst (-1), 1), (21, .ireturn, 1), (22, .aload_n 0, 1), (23, .getfield 19, 3), (26, .getfield 77, 3), (29, .istore 4, 2), (31, .iload 4, 2), (33, .ifCond .gt 6, 3), (36, .bipush (-2), 2), (38, .ireturn, 1), (39, .iconst 0, 1), (40, .istore 5, 2), (42, .iload_n 1, 1), (43, .istore 6, 2), (45, .aload_n 0, 1), (46, .getfield 23, 3), (49, .aload_n 0, 1), (50, .getfield 19, 3), (53, .invokevirtual 73, 3), (56, .iconst 0, 1), (57, .istore 7, 2), (59, .iload 7, 2), (61, .iload_n 2, 1), (62, .if_icmp .ge 106, 3), (65, .iload 6, 2), (67, .ldc 234, 2), (69, .imul, 1), (70, .sipush 12345, 3), (73, .iadd, 1), (74, .istore 6, 2), (76, .iload 6, 2), (78, .bipush 16, 2), (80, .iushr, 1), (81, .sipush 32767, 3), (84, .iand, 1), (85, .istore 8, 2), (87, .iload 8, 2), (89, .iload 4, 2), (91, .irem, 1), (92, .istore 9, 2), (94, .aload_n 0, 1), (95, .getfield 23, 3), (98, .getfield 100, 3), (101, .iload 9, 2), (103, .aaload, 1), (104, .iconst 2, 1), (105, .iload 8, 2), (107, .bipush 8, 2), (109, .idiv, 1), (110, .iconst 4, 1), (111, .irem, 1), (112, .iastore, 1), (113, .aload_n 0, 1), (114, .getfield 23, 3), (117, .getfield 100, 3), (120, .iload 9, 2), (122, .aaload, 1), (123, .iconst 3, 1), (124, .iconst 1, 1), (125, .iload 8, 2), (127, .bipush 32, 2), (129, .idiv, 1), (130, .bipush 9, 2), (132, .irem, 1), (133, .iadd, 1), (134, .iastore, 1), (135, .aload_n 0, 1), (136, .getfield 29, 3), (139, .aload_n 0, 1), (140, .getfield 23, 3), (143, .invokevirtual 140, 3), (146, .iload 5, 2), (148, .aload_n 0, 1), (149, .getfield 29, 3), (152, .aload_n 0, 1), (153, .getfield 23, 3), (156, .invokevirtual 158, 3), (159, .iadd, 1), (160, .istore 5, 2), (162, .iinc 7 1, 3), (165, .goto (-106), 3), (168, .iload_n 3, 1), (169, .ifCond .ne 8, 3), (172, .iload 5, 2), (174, .goto 15, 3), (177, .aload_n 0, 1), (178, .getfield 29, 3), (181, .getfield 143, 3), (184, .iconst 0, 1), (185, .iaload, 1), (186, .invokestatic 145, 3), (189, .ireturn, 1)]
theorem dkX5_drift : dk cX5_drift tbX5_drift := dk_of (by decide +kernel)
abbrev cdX5_drift : Cond := Cond.code yX5_drift cX5_drift 10 (some .int)
abbrev rmX5_drift : Room := { frames := 4, cells := 0, slots := 0, locals := 93 }
theorem mwX5_drift : Cond.instanceMethod yX5_drift ∈ wsL_law ∧ Cond.selects RX5 yX5_drift yX5_drift ∈ wsL_law ∧ Cond.initialized RX5 ∈ wsL_law ∧ cdX5_drift ∈ wsL_law := ⟨inr38 _ (List.mem_of_getElem? (i := 4) rfl), inr38 _ (List.mem_of_getElem? (i := 5) rfl), inr1 _ (List.mem_of_getElem? (i := 2) rfl), inr38 _ (List.mem_of_getElem? (i := 6) rfl)⟩
theorem hdX5_drift : yX5_drift.cls = RX5 ∧ yX5_drift.cls ≠ "java/lang/invoke/MethodHandle" ∧ yX5_drift.cls ≠ "java/lang/invoke/VarHandle" ∧ (parseMethodDescriptor yX5_drift.desc).map (fun d => d.parameters.length) = some 3 := by decide +kernel
set_option maxHeartbeats 4000000 in
set_option maxRecDepth 100000 in
theorem kX5_drift (l : Launch) (g : Gx) (sz : Nat) (a_v a_rd a_nw a_tr a_da a_i0 a_i1 a_s0 a_s1 a_s2 a_s3 : Nat → Nat) (v : VT) (nw : CT) (tr : CT) (da : DT) (p1 : Int32) (p2 : Int32) (p3 : Int32) (res : Int32) (tr_o : CT) (da_o : DT) (hf : fX5_drift p1 p2 p3 v nw tr da = some (res, tr_o, da_o)) : Met l yX5_drift (cdX5_drift :: wsL_law) rmX5_drift (va_Pc [.ref (a_v 0), .int p1, .int p2, .int p3] (RWp g sz (wV g a_v a_rd a_nw a_tr a_da a_i0 a_i1 a_s0 a_s1 a_s2 a_s3 v ++ wC g a_nw nw ++ wC g a_tr tr ++ wD g a_da da))) (va_Qi (fun x (_ : Unit) => x = res) (fun _ => RWq g (va_A (wV g a_v a_rd a_nw a_tr a_da a_i0 a_i1 a_s0 a_s1 a_s2 a_s3 v ++ wC g a_nw nw ++ wC g a_tr tr ++ wD g a_da da) sz) (wV g a_v a_rd a_nw a_tr a_da a_i0 a_i1 a_s0 a_s1 a_s2 a_s3 v ++ wC g a_nw nw ++ wC g a_tr tr_o ++ wD g a_da da_o)) (va_A (wV g a_v a_rd a_nw a_tr a_da a_i0 a_i1 a_s0 a_s1 a_s2 a_s3 v ++ wC g a_nw nw ++ wC g a_tr tr ++ wD g a_da da) sz)) 0 0 (va_A (wV g a_v a_rd a_nw a_tr a_da a_i0 a_i1 a_s0 a_s1 a_s2 a_s3 v ++ wC g a_nw nw ++ wC g a_tr tr ++ wD g a_da da) sz) := by
  refine Met_rwi (cc := cX5_drift) (maxL := 10) (by decide) rfl (Nat.le_of_ble_eq_true rfl) ?_
  intro P E Z Mi AR BE ME CO A Q C hK hA fin w ls hl
  have hl : lv_has ls 10 [(0, .ref (a_v 0)), (1, .int p1), (2, .int p2), (3, .int p3)] := hl
  unfold fX5_drift at hf
  refine lv_iload_n C.1 C.2.1 (dk_at dkX5_drift 0 rfl) rfl (lv_at hl 2 rfl) ?_
  refine lv_iconst (v := 1) C.1 C.2.1 (dk_at dkX5_drift 1 rfl) (by decide) ?_
  refine lv_icmp_lt (tgt := 20) C.1 C.2.1 (dk_at dkX5_drift 2 rfl) (by decide) (fun c1 => ?_) (fun c1 => ?_)
  · have hf := (if_pos c1).symm.trans hf
    refine lv_iconst (v := (-1)) C.1 C.2.1 (dk_at dkX5_drift 11 rfl) (by decide) ?_
    cases hf
    exact fin _ _ _ _ _ (dk_at dkX5_drift 12 rfl) rfl w
  · have hf := (if_neg c1).symm.trans hf
    refine lv_iload_n C.1 C.2.1 (dk_at dkX5_drift 3 rfl) rfl (lv_at hl 2 rfl) ?_
    refine lv_bipush (v := 60) C.1 C.2.1 (dk_at dkX5_drift 4 rfl) (by decide) ?_
    refine lv_icmp_gt (tgt := 20) C.1 C.2.1 (dk_at dkX5_drift 5 rfl) (by decide) (fun c2 => ?_) (fun c2 => ?_)
    · have hf := (if_pos c2).symm.trans hf
      refine lv_iconst (v := (-1)) C.1 C.2.1 (dk_at dkX5_drift 11 rfl) (by decide) ?_
      cases hf
      exact fin _ _ _ _ _ (dk_at dkX5_drift 12 rfl) rfl w
    · have hf := (if_neg c2).symm.trans hf
      refine lv_iload_n C.1 C.2.1 (dk_at dkX5_drift 6 rfl) rfl (lv_at hl 3 rfl) ?_
      refine lv_if_lt (tgt := 20) C.1 C.2.1 (dk_at dkX5_drift 7 rfl) (by decide) (fun c3 => ?_) (fun c3 => ?_)
      · have hf := (if_pos c3).symm.trans hf
        refine lv_iconst (v := (-1)) C.1 C.2.1 (dk_at dkX5_drift 11 rfl) (by decide) ?_
        cases hf
        exact fin _ _ _ _ _ (dk_at dkX5_drift 12 rfl) rfl w
      · have hf := (if_neg c3).symm.trans hf
        refine lv_iload_n C.1 C.2.1 (dk_at dkX5_drift 8 rfl) rfl (lv_at hl 3 rfl) ?_
        refine lv_iconst (v := 1) C.1 C.2.1 (dk_at dkX5_drift 9 rfl) (by decide) ?_
        refine lv_icmp_le (tgt := 22) C.1 C.2.1 (dk_at dkX5_drift 10 rfl) (by decide) (fun c4 => ?_) (fun c4 => ?_)
        · have hf := (if_pos c4).symm.trans hf
          refine lv_aload_n C.1 C.2.1 (dk_at dkX5_drift 13 rfl) rfl (lv_at hl 0 rfl) ?_
          refine r_get (v := .ref (a_nw 0)) C hK w.1 (fun w h => List.mem_cons_of_mem _ (inlX5 w h)) 0 rfl rfl 1 (by decide) (List.mem_cons_of_mem _ (inr1 _ (List.mem_of_getElem? (i := 19) rfl))) rfl (dk_at dkX5_drift 14 rfl) ?_
          refine r_get (v := .int (cSa nw)) C hK w.1 (fun w h => List.mem_cons_of_mem _ (inlX0 w h)) 5 rfl rfl 3 (by decide) (List.mem_cons_of_mem _ (inr16 _ (List.mem_of_getElem? (i := 15) rfl))) rfl (dk_at dkX5_drift 15 rfl) ?_
          refine lv_istore (lv' := [(4, .int (cSa nw)), (0, .ref (a_v 0)), (1, .int p1), (2, .int p2), (3, .int p3)]) C.1 C.2.1 (dk_at dkX5_drift 16 rfl) hl (by decide) rfl (fun ls hl => ?_)
          refine lv_iload C.1 C.2.1 (dk_at dkX5_drift 17 rfl) (lv_at hl 0 rfl) ?_
          refine lv_if_gt (tgt := 39) C.1 C.2.1 (dk_at dkX5_drift 18 rfl) (by decide) (fun c5 => ?_) (fun c5 => ?_)
          · have hf := (if_pos c5).symm.trans hf
            refine lv_iconst (v := 0) C.1 C.2.1 (dk_at dkX5_drift 21 rfl) (by decide) ?_
            refine lv_istore (lv' := [(5, .int 0), (4, .int (cSa nw)), (0, .ref (a_v 0)), (1, .int p1), (2, .int p2), (3, .int p3)]) C.1 C.2.1 (dk_at dkX5_drift 22 rfl) hl (by decide) rfl (fun ls hl => ?_)
            refine lv_iload_n C.1 C.2.1 (dk_at dkX5_drift 23 rfl) rfl (lv_at hl 3 rfl) ?_
            refine lv_istore (lv' := [(6, .int p1), (5, .int 0), (4, .int (cSa nw)), (0, .ref (a_v 0)), (1, .int p1), (2, .int p2), (3, .int p3)]) C.1 C.2.1 (dk_at dkX5_drift 24 rfl) hl (by decide) rfl (fun ls hl => ?_)
            refine lv_aload_n C.1 C.2.1 (dk_at dkX5_drift 25 rfl) rfl (lv_at hl 3 rfl) ?_
            refine r_get (v := .ref (a_tr 0)) C hK w.1 (fun w h => List.mem_cons_of_mem _ (inlX5 w h)) 0 rfl rfl 2 (by decide) (List.mem_cons_of_mem _ (inr1 _ (List.mem_of_getElem? (i := 20) rfl))) rfl (dk_at dkX5_drift 26 rfl) ?_
            refine lv_aload_n C.1 C.2.1 (dk_at dkX5_drift 27 rfl) rfl (lv_at hl 3 rfl) ?_
            refine r_get (v := .ref (a_nw 0)) C hK w.1 (fun w h => List.mem_cons_of_mem _ (inlX5 w h)) 0 rfl rfl 1 (by decide) (List.mem_cons_of_mem _ (inr1 _ (List.mem_of_getElem? (i := 19) rfl))) rfl (dk_at dkX5_drift 28 rfl) ?_
            obtain ⟨tr_6, hq7, hf⟩ := bd1_at hf
            refine r_rwv (As := [.ref (a_nw 0)]) (rest := []) (wr := wV g a_v a_rd a_nw a_tr a_da a_i0 a_i1 a_s0 a_s1 a_s2 a_s3 v ++ wD g a_da da) (ws' := wV g a_v a_rd a_nw a_tr a_da a_i0 a_i1 a_s0 a_s1 a_s2 a_s3 v ++ wC g a_nw nw ++ wC g a_tr tr_6 ++ wD g a_da da) C (kX0_copyTo l g _ a_tr a_nw tr nw tr_6 hq7) (cwV0 C (inr12 _ (List.mem_of_getElem? (i := 6) rfl)) mwX0_copyFrom hdX0_copyFrom ⟨Nat.le_of_ble_eq_true rfl, Nat.le_of_ble_eq_true rfl⟩) hK w hA [16, 17, 18, 19, 20, 21, 22, 23, 24, 25, 26, 5, 6, 7, 8, 9, 10, 11, 12, 13, 14, 15] [0, 1, 2, 3, 4, 27, 28, 29, 30, 31, 32] [0, 1, 2, 3, 4, 22, 23, 24, 25, 26, 27, 28, 29, 30, 31, 32, 11, 12, 13, 14, 15, 16, 17, 18, 19, 20, 21, 5, 6, 7, 8, 9, 10] (by decide) rfl rfl (by decide) (by decide) rfl (by decide) rfl rfl rfl hl.1 rfl (Nat.le_of_ble_eq_true rfl) ⟨Nat.zero_le _, Nat.zero_le _⟩ (dk_at dkX5_drift 29 rfl) (fun H locs w => ?_)
            refine lv_iconst (v := 0) C.1 C.2.1 (dk_at dkX5_drift 30 rfl) (by decide) ?_
            refine lv_istore (lv' := [(7, .int 0), (6, .int p1), (5, .int 0), (4, .int (cSa nw)), (0, .ref (a_v 0)), (1, .int p1), (2, .int p2), (3, .int p3)]) C.1 C.2.1 (dk_at dkX5_drift 31 rfl) hl (by decide) rfl (fun ls hl => ?_)
            have L13 : ∀ (K : Int32 → Int32 → Int32 → CT → DT → Option (Int32 × CT × DT)), (∀ (v8 : Int32) (v9 : Int32) (v10 : Int32) (tr_11 : CT) (da_12 : DT) (H : Heap) (locs : List Loc) (ls : Array Slot), Wd g A Z.heap (wV g a_v a_rd a_nw a_tr a_da a_i0 a_i1 a_s0 a_s1 a_s2 a_s3 v ++ wC g a_nw nw ++ wC g a_tr tr_11 ++ wD g a_da da_12) H locs → lv_has ls 10 [(5, .int v10), (0, .ref (a_v 0)), (3, .int p3)] → K v8 v9 v10 tr_11 da_12 = some (res, tr_o, da_o) → W P l E rmX5_drift Z Mi AR BE ME CO H locs 0 0 Q (F0 Mi 168 ls [])) → ∀ (n : Nat), ∀ (v8 : Int32) (v9 : Int32) (v10 : Int32) (tr_11 : CT) (da_12 : DT) (H : Heap) (locs : List Loc) (ls : Array Slot), Wd g A Z.heap (wV g a_v a_rd a_nw a_tr a_da a_i0 a_i1 a_s0 a_s1 a_s2 a_s3 v ++ wC g a_nw nw ++ wC g a_tr tr_11 ++ wD g a_da da_12) H locs → lv_has ls 10 [(7, .int v8), (6, .int v9), (5, .int v10), (4, .int (cSa nw)), (0, .ref (a_v 0)), (2, .int p2), (3, .int p3)] → fX5_drift_L59 nw p2 K n v8 v9 v10 tr_11 da_12 = some (res, tr_o, da_o) → W P l E rmX5_drift Z Mi AR BE ME CO H locs 0 0 Q (F0 Mi 59 ls []) := by
              intro K hKe n
              induction n with
              | zero => intro v8 v9 v10 tr_11 da_12 H locs ls w hl hf; cases hf
              | succ n ih =>
                intro v8 v9 v10 tr_11 da_12 H locs ls w hl hf
                rw [fX5_drift_L59] at hf
                refine lv_iload C.1 C.2.1 (dk_at dkX5_drift 32 rfl) (lv_at hl 0 rfl) ?_
                refine lv_iload_n C.1 C.2.1 (dk_at dkX5_drift 33 rfl) rfl (lv_at hl 5 rfl) ?_
                refine lv_icmp_ge (tgt := 168) C.1 C.2.1 (dk_at dkX5_drift 34 rfl) (by decide) (fun c14 => ?_) (fun c14 => ?_)
                · have hf := (if_pos c14).symm.trans hf
                  exact hKe v8 v9 v10 tr_11 da_12 _ _ _ w (lv_sub hl [2, 4, 6] rfl) hf
                · have hf := (if_neg c14).symm.trans hf
                  refine lv_iload C.1 C.2.1 (dk_at dkX5_drift 35 rfl) (lv_at hl 1 rfl) ?_
                  refine lv_ldc (v := 1103515245) C.1 C.2.1 C.2.2.2.1 (C.2.2.2.2 _ (List.mem_cons_of_mem _ (inr38 _ (List.mem_of_getElem? (i := 7) rfl)))) (dk_at dkX5_drift 36 rfl) ?_
                  refine lv_imul C.1 C.2.1 (dk_at dkX5_drift 37 rfl) ?_
                  refine lv_topi (fun x15 ex15 => ?_)
                  have hf := nm_at ex15 hf
                  refine lv_sipush (v := 12345) C.1 C.2.1 (dk_at dkX5_drift 38 rfl) (by decide) ?_
                  refine lv_iadd C.1 C.2.1 (dk_at dkX5_drift 39 rfl) ?_
                  refine lv_topi (fun x16 ex16 => ?_)
                  have hf := nm_at ex16 hf
                  refine lv_istore (lv' := [(6, .int x16), (7, .int v8), (5, .int v10), (4, .int (cSa nw)), (0, .ref (a_v 0)), (2, .int p2), (3, .int p3)]) C.1 C.2.1 (dk_at dkX5_drift 40 rfl) hl (by decide) rfl (fun ls hl => ?_)
                  refine lv_iload C.1 C.2.1 (dk_at dkX5_drift 41 rfl) (lv_at hl 0 rfl) ?_
                  refine lv_bipush (v := 16) C.1 C.2.1 (dk_at dkX5_drift 42 rfl) (by decide) ?_
                  refine lv_iushr C.1 C.2.1 (dk_at dkX5_drift 43 rfl) rfl ?_
                  refine lv_topi (fun x17 ex17 => ?_)
                  have hf := nm_at ex17 hf
                  refine lv_sipush (v := 32767) C.1 C.2.1 (dk_at dkX5_drift 44 rfl) (by decide) ?_
                  refine lv_iand C.1 C.2.1 (dk_at dkX5_drift 45 rfl) ?_
                  refine lv_topi (fun x18 ex18 => ?_)
                  have hf := nm_at ex18 hf
                  refine lv_istore (lv' := [(8, .int x18), (6, .int x16), (7, .int v8), (5, .int v10), (4, .int (cSa nw)), (0, .ref (a_v 0)), (2, .int p2), (3, .int p3)]) C.1 C.2.1 (dk_at dkX5_drift 46 rfl) hl (by decide) rfl (fun ls hl => ?_)
                  refine lv_iload C.1 C.2.1 (dk_at dkX5_drift 47 rfl) (lv_at hl 0 rfl) ?_
                  refine lv_iload C.1 C.2.1 (dk_at dkX5_drift 48 rfl) (lv_at hl 4 rfl) ?_
                  obtain ⟨h19, hf⟩ := gz_at hf
                  refine lv_irem C.1 C.2.1 (dk_at dkX5_drift 49 rfl) h19 ?_
                  refine lv_topi (fun x20 ex20 => ?_)
                  have hf := nm_at ex20 hf
                  refine lv_istore (lv' := [(9, .int x20), (8, .int x18), (6, .int x16), (7, .int v8), (5, .int v10), (4, .int (cSa nw)), (0, .ref (a_v 0)), (2, .int p2), (3, .int p3)]) C.1 C.2.1 (dk_at dkX5_drift 50 rfl) hl (by decide) rfl (fun ls hl => ?_)
                  refine lv_aload_n C.1 C.2.1 (dk_at dkX5_drift 51 rfl) rfl (lv_at hl 6 rfl) ?_
                  refine r_get (v := .ref (a_tr 0)) C hK w.1 (fun w h => List.mem_cons_of_mem _ (inlX5 w h)) 0 rfl rfl 2 (by decide) (List.mem_cons_of_mem _ (inr1 _ (List.mem_of_getElem? (i := 20) rfl))) rfl (dk_at dkX5_drift 52 rfl) ?_
                  refine r_get (v := .ref (a_tr 2)) C hK w.1 (fun w h => List.mem_cons_of_mem _ (inlX0 w h)) 16 rfl rfl 2 (by decide) (List.mem_cons_of_mem _ (inr17 _ (List.mem_of_getElem? (i := 21) rfl))) rfl (dk_at dkX5_drift 53 rfl) ?_
                  refine lv_iload C.1 C.2.1 (dk_at dkX5_drift 54 rfl) (lv_at hl 0 rfl) ?_
                  obtain ⟨h21, hf⟩ := gd_at hf
                  refine r_aldr (b := a_tr (3 + x20.toNatClampNeg)) C hK w.1 18 rfl h21 rfl (dk_at dkX5_drift 55 rfl) ?_
                  have h22 := in_lt h21
                  refine lv_iconst (v := 2) C.1 C.2.1 (dk_at dkX5_drift 56 rfl) (by decide) ?_
                  refine lv_iload C.1 C.2.1 (dk_at dkX5_drift 57 rfl) (lv_at hl 1 rfl) ?_
                  refine lv_bipush (v := 8) C.1 C.2.1 (dk_at dkX5_drift 58 rfl) (by decide) ?_
                  refine lv_idiv C.1 C.2.1 (dk_at dkX5_drift 59 rfl) (by decide) ?_
                  refine lv_topi (fun x23 ex23 => ?_)
                  have hf := nm_at ex23 hf
                  refine lv_iconst (v := 4) C.1 C.2.1 (dk_at dkX5_drift 60 rfl) (by decide) ?_
                  refine lv_irem C.1 C.2.1 (dk_at dkX5_drift 61 rfl) (by decide) ?_
                  refine lv_topi (fun x24 ex24 => ?_)
                  have hf := nm_at ex24 hf
                  refine r_iast (k := 2) (a := a_tr (3 + x20.toNatClampNeg)) (n := 5) (f := cTo tr_11 x20.toNatClampNeg) C hK w (16 + (3 + x20.toNatClampNeg)) (by rcases lt5 h22 with h5 | h5 | h5 | h5 | h5 <;> rw [h5] <;> rfl) (in_c (by decide)) (by decide) (dk_at dkX5_drift 62 rfl) (fun H locs w => ?_)
                  obtain ⟨tr_25, etr_25⟩ : ∃ z : CT, z = cTo' tr_11 (va_up (cTo tr_11) x20.toNatClampNeg (upd (cTo tr_11 x20.toNatClampNeg) 2 x24)) := ⟨_, rfl⟩
                  have hf := nm_at etr_25 hf
                  have w : Wd g A Z.heap (wV g a_v a_rd a_nw a_tr a_da a_i0 a_i1 a_s0 a_s1 a_s2 a_s3 v ++ wC g a_nw nw ++ wC g a_tr tr_25 ++ wD g a_da da_12) H locs := by rw [etr_25]; rcases lt5 h22 with h5 | h5 | h5 | h5 | h5 <;> (rw [h5] at w; rw [h5]; exact w)
                  refine lv_aload_n C.1 C.2.1 (dk_at dkX5_drift 63 rfl) rfl (lv_at hl 6 rfl) ?_
                  refine r_get (v := .ref (a_tr 0)) C hK w.1 (fun w h => List.mem_cons_of_mem _ (inlX5 w h)) 0 rfl rfl 2 (by decide) (List.mem_cons_of_mem _ (inr1 _ (List.mem_of_getElem? (i := 20) rfl))) rfl (dk_at dkX5_drift 64 rfl) ?_
                  refine r_get (v := .ref (a_tr 2)) C hK w.1 (fun w h => List.mem_cons_of_mem _ (inlX0 w h)) 16 rfl rfl 2 (by decide) (List.mem_cons_of_mem _ (inr17 _ (List.mem_of_getElem? (i := 21) rfl))) rfl (dk_at dkX5_drift 65 rfl) ?_
                  refine lv_iload C.1 C.2.1 (dk_at dkX5_drift 66 rfl) (lv_at hl 0 rfl) ?_
                  obtain ⟨h26, hf⟩ := gd_at hf
                  refine r_aldr (b := a_tr (3 + x20.toNatClampNeg)) C hK w.1 18 rfl h26 rfl (dk_at dkX5_drift 67 rfl) ?_
                  have h27 := in_lt h26
                  refine lv_iconst (v := 3) C.1 C.2.1 (dk_at dkX5_drift 68 rfl) (by decide) ?_
                  refine lv_iconst (v := 1) C.1 C.2.1 (dk_at dkX5_drift 69 rfl) (by decide) ?_
                  refine lv_iload C.1 C.2.1 (dk_at dkX5_drift 70 rfl) (lv_at hl 1 rfl) ?_
                  refine lv_bipush (v := 32) C.1 C.2.1 (dk_at dkX5_drift 71 rfl) (by decide) ?_
                  refine lv_idiv C.1 C.2.1 (dk_at dkX5_drift 72 rfl) (by decide) ?_
                  refine lv_topi (fun x28 ex28 => ?_)
                  have hf := nm_at ex28 hf
                  refine lv_bipush (v := 9) C.1 C.2.1 (dk_at dkX5_drift 73 rfl) (by decide) ?_
                  refine lv_irem C.1 C.2.1 (dk_at dkX5_drift 74 rfl) (by decide) ?_
                  refine lv_iadd C.1 C.2.1 (dk_at dkX5_drift 75 rfl) ?_
                  refine lv_topi (fun x29 ex29 => ?_)
                  have hf := nm_at ex29 hf
                  refine r_iast (k := 3) (a := a_tr (3 + x20.toNatClampNeg)) (n := 5) (f := cTo tr_25 x20.toNatClampNeg) C hK w (16 + (3 + x20.toNatClampNeg)) (by rcases lt5 h27 with h5 | h5 | h5 | h5 | h5 <;> rw [h5] <;> rfl) (in_c (by decide)) (by decide) (dk_at dkX5_drift 76 rfl) (fun H locs w => ?_)
                  obtain ⟨tr_30, etr_30⟩ : ∃ z : CT, z = cTo' tr_25 (va_up (cTo tr_25) x20.toNatClampNeg (upd (cTo tr_25 x20.toNatClampNeg) 3 x29)) := ⟨_, rfl⟩
                  have hf := nm_at etr_30 hf
                  have w : Wd g A Z.heap (wV g a_v a_rd a_nw a_tr a_da a_i0 a_i1 a_s0 a_s1 a_s2 a_s3 v ++ wC g a_nw nw ++ wC g a_tr tr_30 ++ wD g a_da da_12) H locs := by rw [etr_30]; rcases lt5 h27 with h5 | h5 | h5 | h5 | h5 <;> (rw [h5] at w; rw [h5]; exact w)
                  refine lv_aload_n C.1 C.2.1 (dk_at dkX5_drift 77 rfl) rfl (lv_at hl 6 rfl) ?_
                  refine r_get (v := .ref (a_da 0)) C hK w.1 (fun w h => List.mem_cons_of_mem _ (inlX5 w h)) 0 rfl rfl 3 (by decide) (List.mem_cons_of_mem _ (inr2 _ (List.mem_of_getElem? (i := 0) rfl))) rfl (dk_at dkX5_drift 78 rfl) ?_
                  refine lv_aload_n C.1 C.2.1 (dk_at dkX5_drift 79 rfl) rfl (lv_at hl 6 rfl) ?_
                  refine r_get (v := .ref (a_tr 0)) C hK w.1 (fun w h => List.mem_cons_of_mem _ (inlX5 w h)) 0 rfl rfl 2 (by decide) (List.mem_cons_of_mem _ (inr1 _ (List.mem_of_getElem? (i := 20) rfl))) rfl (dk_at dkX5_drift 80 rfl) ?_
                  obtain ⟨da_31, hq32, hf⟩ := bd1_at hf
                  refine r_rwv (As := [.ref (a_tr 0)]) (rest := []) (wr := wV g a_v a_rd a_nw a_tr a_da a_i0 a_i1 a_s0 a_s1 a_s2 a_s3 v ++ wC g a_nw nw) (ws' := wV g a_v a_rd a_nw a_tr a_da a_i0 a_i1 a_s0 a_s1 a_s2 a_s3 v ++ wC g a_nw nw ++ wC g a_tr tr_30 ++ wD g a_da da_31) C (kX1_pass l g _ a_da a_tr da_12 tr_30 da_31 hq32) (cwV0 C (inr23 _ (List.mem_of_getElem? (i := 7) rfl)) mwX1_pass hdX1_pass ⟨Nat.le_of_ble_eq_true rfl, Nat.le_of_ble_eq_true rfl⟩) hK w hA [27, 28, 29, 30, 31, 32, 16, 17, 18, 19, 20, 21, 22, 23, 24, 25, 26] [0, 1, 2, 3, 4, 5, 6, 7, 8, 9, 10, 11, 12, 13, 14, 15] [0, 1, 2, 3, 4, 5, 6, 7, 8, 9, 10, 11, 12, 13, 14, 15, 22, 23, 24, 25, 26, 27, 28, 29, 30, 31, 32, 16, 17, 18, 19, 20, 21] (by decide) rfl rfl (by decide) (by decide) rfl (by decide) rfl rfl rfl hl.1 rfl (Nat.le_of_ble_eq_true rfl) ⟨Nat.zero_le _, Nat.zero_le _⟩ (dk_at dkX5_drift 81 rfl) (fun H locs w => ?_)
                  refine lv_iload C.1 C.2.1 (dk_at dkX5_drift 82 rfl) (lv_at hl 4 rfl) ?_
                  refine lv_aload_n C.1 C.2.1 (dk_at dkX5_drift 83 rfl) rfl (lv_at hl 6 rfl) ?_
                  refine r_get (v := .ref (a_da 0)) C hK w.1 (fun w h => List.mem_cons_of_mem _ (inlX5 w h)) 0 rfl rfl 3 (by decide) (List.mem_cons_of_mem _ (inr2 _ (List.mem_of_getElem? (i := 0) rfl))) rfl (dk_at dkX5_drift 84 rfl) ?_
                  refine lv_aload_n C.1 C.2.1 (dk_at dkX5_drift 85 rfl) rfl (lv_at hl 6 rfl) ?_
                  refine r_get (v := .ref (a_tr 0)) C hK w.1 (fun w h => List.mem_cons_of_mem _ (inlX5 w h)) 0 rfl rfl 2 (by decide) (List.mem_cons_of_mem _ (inr1 _ (List.mem_of_getElem? (i := 20) rfl))) rfl (dk_at dkX5_drift 86 rfl) ?_
                  obtain ⟨r33, hq34, hf⟩ := bd1_at hf
                  refine r_roV (As := [.ref (a_tr 0)]) (rest := [.int v10]) C (kX1_heard l g a_da a_tr da_31 tr_30 r33 hq34) (cwV0 C (inr27 _ (List.mem_of_getElem? (i := 5) rfl)) mwX1_heard hdX1_heard ⟨Nat.le_of_ble_eq_true rfl, Nat.le_of_ble_eq_true rfl⟩) hK (w.1.sub [27, 28, 29, 30, 31, 32, 16, 17, 18, 19, 20, 21, 22, 23, 24, 25, 26] rfl) rfl rfl rfl hl.1 rfl (Nat.le_of_ble_eq_true rfl) ⟨Nat.zero_le _, Nat.zero_le _⟩ (dk_at dkX5_drift 87 rfl) ?_
                  refine lv_iadd C.1 C.2.1 (dk_at dkX5_drift 88 rfl) ?_
                  refine lv_topi (fun x35 ex35 => ?_)
                  have hf := nm_at ex35 hf
                  refine lv_istore (lv' := [(5, .int x35), (9, .int x20), (8, .int x18), (6, .int x16), (7, .int v8), (4, .int (cSa nw)), (0, .ref (a_v 0)), (2, .int p2), (3, .int p3)]) C.1 C.2.1 (dk_at dkX5_drift 89 rfl) hl (by decide) rfl (fun ls hl => ?_)
                  obtain ⟨x36, ex36⟩ : ∃ z : Int32, z = v8 + 1 := ⟨_, rfl⟩
                  have hf := nm_at ex36 hf
                  refine lv_iinc (v := x36) (lv' := [(7, .int x36), (5, .int x35), (9, .int x20), (8, .int x18), (6, .int x16), (4, .int (cSa nw)), (0, .ref (a_v 0)), (2, .int p2), (3, .int p3)]) C.1 C.2.1 (dk_at dkX5_drift 90 rfl) hl (k := 4) rfl (by rw [ex36]; rfl) (by decide) rfl (fun ls hl => ?_)
                  refine lv_goto (tgt := 59) C.1 C.2.1 (dk_at dkX5_drift 91 rfl) (by decide) ?_
                  exact ih x36 x16 x35 tr_30 da_31 _ _ _ w (lv_sub hl [0, 4, 1, 5, 6, 7, 8] rfl) hf
            refine L13 _ ?_ 4096 0 p1 0 tr_6 da _ _ _ w (lv_sub hl [0, 1, 2, 3, 4, 6, 7] rfl) hf
            clear hf
            intro v8 v9 v10 tr_11 da_12 H locs ls w hl hf
            refine lv_iload_n C.1 C.2.1 (dk_at dkX5_drift 92 rfl) rfl (lv_at hl 2 rfl) ?_
            refine lv_if_ne (tgt := 177) C.1 C.2.1 (dk_at dkX5_drift 93 rfl) (by decide) (fun c37 => ?_) (fun c37 => ?_)
            · have hf := (if_neg c37).symm.trans hf
              refine lv_aload_n C.1 C.2.1 (dk_at dkX5_drift 96 rfl) rfl (lv_at hl 1 rfl) ?_
              refine r_get (v := .ref (a_da 0)) C hK w.1 (fun w h => List.mem_cons_of_mem _ (inlX5 w h)) 0 rfl rfl 3 (by decide) (List.mem_cons_of_mem _ (inr2 _ (List.mem_of_getElem? (i := 0) rfl))) rfl (dk_at dkX5_drift 97 rfl) ?_
              refine r_get (v := .ref (a_da 1)) C hK w.1 (fun w h => List.mem_cons_of_mem _ (inlX1 w h)) 27 rfl rfl 0 (by decide) (List.mem_cons_of_mem _ (inr23 _ (List.mem_of_getElem? (i := 4) rfl))) rfl (dk_at dkX5_drift 98 rfl) ?_
              refine lv_iconst (v := 0) C.1 C.2.1 (dk_at dkX5_drift 99 rfl) (by decide) ?_
              refine r_iald (k := 0) (f := (dPl da_12)) C hK w.1 28 rfl (in_c (by decide)) (by decide) (dk_at dkX5_drift 100 rfl) ?_
              refine lv_topi (fun x38 ex38 => ?_)
              have hf := nm_at ex38 hf
              obtain ⟨r39, hq40, hf⟩ := bd1_at hf
              refine r_st (As := [.int x38]) (rest := []) C (kX3_cellOf l x38 r39 hq40) (cwS0 C (inr24 _ (List.mem_of_getElem? (i := 21) rfl)) mwX3_cellOf hdX3_cellOf ⟨Nat.le_of_ble_eq_true rfl, Nat.le_of_ble_eq_true rfl⟩) rfl hl.1 rfl (Nat.le_of_ble_eq_true rfl) ⟨Nat.zero_le _, Nat.zero_le _⟩ (dk_at dkX5_drift 101 rfl) ?_
              cases hf
              exact fin _ _ _ _ _ (dk_at dkX5_drift 102 rfl) rfl w
            · have hf := (if_pos c37).symm.trans hf
              refine lv_iload C.1 C.2.1 (dk_at dkX5_drift 94 rfl) (lv_at hl 0 rfl) ?_
              refine lv_goto (tgt := 189) C.1 C.2.1 (dk_at dkX5_drift 95 rfl) (by decide) ?_
              cases hf
              exact fin _ _ _ _ _ (dk_at dkX5_drift 102 rfl) rfl w
          · have hf := (if_neg c5).symm.trans hf
            refine lv_bipush (v := (-2)) C.1 C.2.1 (dk_at dkX5_drift 19 rfl) (by decide) ?_
            cases hf
            exact fin _ _ _ _ _ (dk_at dkX5_drift 20 rfl) rfl w
        · have hf := (if_neg c4).symm.trans hf
          refine lv_iconst (v := (-1)) C.1 C.2.1 (dk_at dkX5_drift 11 rfl) (by decide) ?_
          cases hf
          exact fin _ _ _ _ _ (dk_at dkX5_drift 12 rfl) rfl w
-- X5.keep
abbrev tbX5_keep : List (Nat × Instr × Nat) := [(0, .iload_n 1, 1), (1, .ifCond .lt 8, 3), (4, .iload_n 1, 1), (5, .iconst 2, 1), (6, .if_icmp .lt 5, 3), (9, .iconst (-1), 1), (10, .ireturn, 1), (11, .aload_n 0, 1), (12, .getfield 41, 3), (15, .iload_n 1, 1), (16, .baload, 1), (17, .ifCond .eq 7, 3), (20, .iconst 1, 1), (21, .goto 4, 3), (24, .iconst 0, 1), (25, .istore_n 2, 1), (26, .aload_n 0, 1), (27, .getfield 37, 3), (30, .iload_n 1, 1), (31, .aaload, 1), (32, .aload_n 0, 1), (33, .getfield 19, 3), (36, .invokevirtual 73, 3), (39, .aload_n 0, 1), (40, .getfield 41, 3), (43, .iload_n 1, 1), (44, .iconst 1, 1), (45, .bastore, 1), (46, .iload_n 2, 1), (47, .ireturn, 1)]
theorem dkX5_keep : dk cX5_keep tbX5_keep := dk_of (by decide +kernel)
abbrev cdX5_keep : Cond := Cond.code yX5_keep cX5_keep 3 (some .int)
abbrev rmX5_keep : Room := { frames := 2, cells := 0, slots := 0, locals := 40 }
theorem mwX5_keep : Cond.instanceMethod yX5_keep ∈ wsL_law ∧ Cond.selects RX5 yX5_keep yX5_keep ∈ wsL_law ∧ Cond.initialized RX5 ∈ wsL_law ∧ cdX5_keep ∈ wsL_law := ⟨inr38 _ (List.mem_of_getElem? (i := 15) rfl), inr38 _ (List.mem_of_getElem? (i := 16) rfl), inr1 _ (List.mem_of_getElem? (i := 2) rfl), inr38 _ (List.mem_of_getElem? (i := 17) rfl)⟩
theorem hdX5_keep : yX5_keep.cls = RX5 ∧ yX5_keep.cls ≠ "java/lang/invoke/MethodHandle" ∧ yX5_keep.cls ≠ "java/lang/invoke/VarHandle" ∧ (parseMethodDescriptor yX5_keep.desc).map (fun d => d.parameters.length) = some 1 := by decide +kernel
set_option maxHeartbeats 4000000 in
set_option maxRecDepth 100000 in
theorem kX5_keep (l : Launch) (g : Gx) (sz : Nat) (a_v a_rd a_nw a_tr a_da a_i0 a_i1 a_s0 a_s1 a_s2 a_s3 : Nat → Nat) (v : VT) (nw : CT) (i0 : CT) (i1 : CT) (p1 : Int32) (res : Int32) (v_o : VT) (i0_o : CT) (i1_o : CT) (hf : fX5_keep p1 v nw i0 i1 = some (res, v_o, i0_o, i1_o)) : Met l yX5_keep (cdX5_keep :: wsL_law) rmX5_keep (va_Pc [.ref (a_v 0), .int p1] (RWp g sz (wV g a_v a_rd a_nw a_tr a_da a_i0 a_i1 a_s0 a_s1 a_s2 a_s3 v ++ wC g a_nw nw ++ wC g a_i0 i0 ++ wC g a_i1 i1))) (va_Qi (fun x (_ : Unit) => x = res) (fun _ => RWq g (va_A (wV g a_v a_rd a_nw a_tr a_da a_i0 a_i1 a_s0 a_s1 a_s2 a_s3 v ++ wC g a_nw nw ++ wC g a_i0 i0 ++ wC g a_i1 i1) sz) (wV g a_v a_rd a_nw a_tr a_da a_i0 a_i1 a_s0 a_s1 a_s2 a_s3 v_o ++ wC g a_nw nw ++ wC g a_i0 i0_o ++ wC g a_i1 i1_o)) (va_A (wV g a_v a_rd a_nw a_tr a_da a_i0 a_i1 a_s0 a_s1 a_s2 a_s3 v ++ wC g a_nw nw ++ wC g a_i0 i0 ++ wC g a_i1 i1) sz)) 0 0 (va_A (wV g a_v a_rd a_nw a_tr a_da a_i0 a_i1 a_s0 a_s1 a_s2 a_s3 v ++ wC g a_nw nw ++ wC g a_i0 i0 ++ wC g a_i1 i1) sz) := by
  refine Met_rwi (cc := cX5_keep) (maxL := 3) (by decide) rfl (Nat.le_of_ble_eq_true rfl) ?_
  intro P E Z Mi AR BE ME CO A Q C hK hA fin w ls hl
  have hl : lv_has ls 3 [(0, .ref (a_v 0)), (1, .int p1)] := hl
  unfold fX5_keep at hf
  refine lv_iload_n C.1 C.2.1 (dk_at dkX5_keep 0 rfl) rfl (lv_at hl 1 rfl) ?_
  refine lv_if_lt (tgt := 9) C.1 C.2.1 (dk_at dkX5_keep 1 rfl) (by decide) (fun c1 => ?_) (fun c1 => ?_)
  · have hf := (if_pos c1).symm.trans hf
    refine lv_iconst (v := (-1)) C.1 C.2.1 (dk_at dkX5_keep 5 rfl) (by decide) ?_
    cases hf
    exact fin _ _ _ _ _ (dk_at dkX5_keep 6 rfl) rfl w
  · have hf := (if_neg c1).symm.trans hf
    refine lv_iload_n C.1 C.2.1 (dk_at dkX5_keep 2 rfl) rfl (lv_at hl 1 rfl) ?_
    refine lv_iconst (v := 2) C.1 C.2.1 (dk_at dkX5_keep 3 rfl) (by decide) ?_
    refine lv_icmp_lt (tgt := 11) C.1 C.2.1 (dk_at dkX5_keep 4 rfl) (by decide) (fun c2 => ?_) (fun c2 => ?_)
    · have hf := (if_pos c2).symm.trans hf
      refine lv_aload_n C.1 C.2.1 (dk_at dkX5_keep 7 rfl) rfl (lv_at hl 0 rfl) ?_
      refine r_get (v := .ref (a_v 3)) C hK w.1 (fun w h => List.mem_cons_of_mem _ (inlX5 w h)) 0 rfl rfl 6 (by decide) (List.mem_cons_of_mem _ (inr2 _ (List.mem_of_getElem? (i := 5) rfl))) rfl (dk_at dkX5_keep 8 rfl) ?_
      refine lv_iload_n C.1 C.2.1 (dk_at dkX5_keep 9 rfl) rfl (lv_at hl 1 rfl) ?_
      obtain ⟨h3, hf⟩ := gd_at hf
      refine r_zald (k := p1.toNatClampNeg) (f := (vKe v)) C hK w.1 3 rfl h3 rfl (dk_at dkX5_keep 10 rfl) ?_
      obtain ⟨y4, hq5, hf⟩ := bd1_at hf
      have J6 : ∀ (H : Heap) (locs : List Loc) (ls : Array Slot), Wd g A Z.heap (wV g a_v a_rd a_nw a_tr a_da a_i0 a_i1 a_s0 a_s1 a_s2 a_s3 v ++ wC g a_nw nw ++ wC g a_i0 i0 ++ wC g a_i1 i1) H locs → lv_has ls 3 [(0, .ref (a_v 0)), (1, .int p1)] → W P l E rmX5_keep Z Mi AR BE ME CO H locs 0 0 Q (F0 Mi 25 ls [.int y4]) := by
        intro H locs ls w hl
        refine lv_istore_n (lv' := [(2, .int y4), (0, .ref (a_v 0)), (1, .int p1)]) C.1 C.2.1 (dk_at dkX5_keep 15 rfl) rfl hl (by decide) rfl (fun ls hl => ?_)
        refine lv_aload_n C.1 C.2.1 (dk_at dkX5_keep 16 rfl) rfl (lv_at hl 1 rfl) ?_
        refine r_get (v := .ref (a_v 2)) C hK w.1 (fun w h => List.mem_cons_of_mem _ (inlX5 w h)) 0 rfl rfl 5 (by decide) (List.mem_cons_of_mem _ (inr2 _ (List.mem_of_getElem? (i := 3) rfl))) rfl (dk_at dkX5_keep 17 rfl) ?_
        refine lv_iload_n C.1 C.2.1 (dk_at dkX5_keep 18 rfl) rfl (lv_at hl 2 rfl) ?_
        obtain ⟨h7, hf⟩ := gd_at hf
        rcases lt2 (in_lt h7) with hs | hs
        · have hf : _ := (if_pos hs).symm.trans hf
          refine r_aldc (b := a_i0 0) C hK w.1 2 rfl h7 (by rw [hs]; rfl) (dk_at dkX5_keep 19 rfl) ?_
          refine lv_aload_n C.1 C.2.1 (dk_at dkX5_keep 20 rfl) rfl (lv_at hl 1 rfl) ?_
          refine r_get (v := .ref (a_nw 0)) C hK w.1 (fun w h => List.mem_cons_of_mem _ (inlX5 w h)) 0 rfl rfl 1 (by decide) (List.mem_cons_of_mem _ (inr1 _ (List.mem_of_getElem? (i := 19) rfl))) rfl (dk_at dkX5_keep 21 rfl) ?_
          obtain ⟨i0_8, hq9, hf⟩ := bd1_at hf
          refine r_rwv (As := [.ref (a_nw 0)]) (rest := []) (wr := wV g a_v a_rd a_nw a_tr a_da a_i0 a_i1 a_s0 a_s1 a_s2 a_s3 v ++ wC g a_i1 i1) (ws' := wV g a_v a_rd a_nw a_tr a_da a_i0 a_i1 a_s0 a_s1 a_s2 a_s3 v ++ wC g a_nw nw ++ wC g a_i0 i0_8 ++ wC g a_i1 i1) C (kX0_copyTo l g _ a_i0 a_nw i0 nw i0_8 hq9) (cwV0 C (inr12 _ (List.mem_of_getElem? (i := 6) rfl)) mwX0_copyFrom hdX0_copyFrom ⟨Nat.le_of_ble_eq_true rfl, Nat.le_of_ble_eq_true rfl⟩) hK w hA [16, 17, 18, 19, 20, 21, 22, 23, 24, 25, 26, 5, 6, 7, 8, 9, 10, 11, 12, 13, 14, 15] [0, 1, 2, 3, 4, 27, 28, 29, 30, 31, 32, 33, 34, 35, 36, 37] [0, 1, 2, 3, 4, 27, 28, 29, 30, 31, 32, 33, 34, 35, 36, 37, 16, 17, 18, 19, 20, 21, 22, 23, 24, 25, 26, 5, 6, 7, 8, 9, 10, 11, 12, 13, 14, 15] (by decide) rfl rfl (by decide) (by decide) rfl (by decide) rfl rfl rfl hl.1 rfl (Nat.le_of_ble_eq_true rfl) ⟨Nat.zero_le _, Nat.zero_le _⟩ (dk_at dkX5_keep 22 rfl) (fun H locs w => ?_)
          refine lv_aload_n C.1 C.2.1 (dk_at dkX5_keep 23 rfl) rfl (lv_at hl 1 rfl) ?_
          refine r_get (v := .ref (a_v 3)) C hK w.1 (fun w h => List.mem_cons_of_mem _ (inlX5 w h)) 0 rfl rfl 6 (by decide) (List.mem_cons_of_mem _ (inr2 _ (List.mem_of_getElem? (i := 5) rfl))) rfl (dk_at dkX5_keep 24 rfl) ?_
          refine lv_iload_n C.1 C.2.1 (dk_at dkX5_keep 25 rfl) rfl (lv_at hl 2 rfl) ?_
          refine lv_iconst (v := 1) C.1 C.2.1 (dk_at dkX5_keep 26 rfl) (by decide) ?_
          obtain ⟨h10, hf⟩ := gd_at hf
          refine r_zast (k := p1.toNatClampNeg) (f := (vKe v)) C hK w 3 rfl h10 rfl (dk_at dkX5_keep 27 rfl) (fun H locs w => ?_)
          obtain ⟨v_11, ev_11⟩ : ∃ z : VT, z = vKe' v (upd (vKe v) p1.toNatClampNeg (vp_nar .boolean 1)) := ⟨_, rfl⟩
          have hf := nm_at ev_11 hf
          have w : Wd g A Z.heap (wV g a_v a_rd a_nw a_tr a_da a_i0 a_i1 a_s0 a_s1 a_s2 a_s3 v_11 ++ wC g a_nw nw ++ wC g a_i0 i0_8 ++ wC g a_i1 i1) H locs := by rw [ev_11]; exact w
          refine lv_iload_n C.1 C.2.1 (dk_at dkX5_keep 28 rfl) rfl (lv_at hl 0 rfl) ?_
          cases hf
          exact fin _ _ _ _ _ (dk_at dkX5_keep 29 rfl) rfl w
        · have hf : _ := (if_neg (by rw [hs]; decide)).symm.trans hf
          refine r_aldc (b := a_i1 0) C hK w.1 2 rfl h7 (by rw [hs]; rfl) (dk_at dkX5_keep 19 rfl) ?_
          refine lv_aload_n C.1 C.2.1 (dk_at dkX5_keep 20 rfl) rfl (lv_at hl 1 rfl) ?_
          refine r_get (v := .ref (a_nw 0)) C hK w.1 (fun w h => List.mem_cons_of_mem _ (inlX5 w h)) 0 rfl rfl 1 (by decide) (List.mem_cons_of_mem _ (inr1 _ (List.mem_of_getElem? (i := 19) rfl))) rfl (dk_at dkX5_keep 21 rfl) ?_
          obtain ⟨i1_12, hq13, hf⟩ := bd1_at hf
          refine r_rwv (As := [.ref (a_nw 0)]) (rest := []) (wr := wV g a_v a_rd a_nw a_tr a_da a_i0 a_i1 a_s0 a_s1 a_s2 a_s3 v ++ wC g a_i0 i0) (ws' := wV g a_v a_rd a_nw a_tr a_da a_i0 a_i1 a_s0 a_s1 a_s2 a_s3 v ++ wC g a_nw nw ++ wC g a_i0 i0 ++ wC g a_i1 i1_12) C (kX0_copyTo l g _ a_i1 a_nw i1 nw i1_12 hq13) (cwV0 C (inr12 _ (List.mem_of_getElem? (i := 6) rfl)) mwX0_copyFrom hdX0_copyFrom ⟨Nat.le_of_ble_eq_true rfl, Nat.le_of_ble_eq_true rfl⟩) hK w hA [27, 28, 29, 30, 31, 32, 33, 34, 35, 36, 37, 5, 6, 7, 8, 9, 10, 11, 12, 13, 14, 15] [0, 1, 2, 3, 4, 16, 17, 18, 19, 20, 21, 22, 23, 24, 25, 26] [0, 1, 2, 3, 4, 27, 28, 29, 30, 31, 32, 33, 34, 35, 36, 37, 5, 6, 7, 8, 9, 10, 11, 12, 13, 14, 15, 16, 17, 18, 19, 20, 21, 22, 23, 24, 25, 26] (by decide) rfl rfl (by decide) (by decide) rfl (by decide) rfl rfl rfl hl.1 rfl (Nat.le_of_ble_eq_true rfl) ⟨Nat.zero_le _, Nat.zero_le _⟩ (dk_at dkX5_keep 22 rfl) (fun H locs w => ?_)
          refine lv_aload_n C.1 C.2.1 (dk_at dkX5_keep 23 rfl) rfl (lv_at hl 1 rfl) ?_
          refine r_get (v := .ref (a_v 3)) C hK w.1 (fun w h => List.mem_cons_of_mem _ (inlX5 w h)) 0 rfl rfl 6 (by decide) (List.mem_cons_of_mem _ (inr2 _ (List.mem_of_getElem? (i := 5) rfl))) rfl (dk_at dkX5_keep 24 rfl) ?_
          refine lv_iload_n C.1 C.2.1 (dk_at dkX5_keep 25 rfl) rfl (lv_at hl 2 rfl) ?_
          refine lv_iconst (v := 1) C.1 C.2.1 (dk_at dkX5_keep 26 rfl) (by decide) ?_
          obtain ⟨h14, hf⟩ := gd_at hf
          refine r_zast (k := p1.toNatClampNeg) (f := (vKe v)) C hK w 3 rfl h14 rfl (dk_at dkX5_keep 27 rfl) (fun H locs w => ?_)
          obtain ⟨v_15, ev_15⟩ : ∃ z : VT, z = vKe' v (upd (vKe v) p1.toNatClampNeg (vp_nar .boolean 1)) := ⟨_, rfl⟩
          have hf := nm_at ev_15 hf
          have w : Wd g A Z.heap (wV g a_v a_rd a_nw a_tr a_da a_i0 a_i1 a_s0 a_s1 a_s2 a_s3 v_15 ++ wC g a_nw nw ++ wC g a_i0 i0 ++ wC g a_i1 i1_12) H locs := by rw [ev_15]; exact w
          refine lv_iload_n C.1 C.2.1 (dk_at dkX5_keep 28 rfl) rfl (lv_at hl 0 rfl) ?_
          cases hf
          exact fin _ _ _ _ _ (dk_at dkX5_keep 29 rfl) rfl w
      clear hf
      have hf := hq5
      refine lv_if_eq (tgt := 24) C.1 C.2.1 (dk_at dkX5_keep 11 rfl) (by decide) (fun c16 => ?_) (fun c16 => ?_)
      · have hf := (if_pos c16).symm.trans hf
        refine lv_iconst (v := 0) C.1 C.2.1 (dk_at dkX5_keep 14 rfl) (by decide) ?_
        cases hf
        exact J6 _ _ _ w (lv_sub hl [0, 1] rfl)
      · have hf := (if_neg c16).symm.trans hf
        refine lv_iconst (v := 1) C.1 C.2.1 (dk_at dkX5_keep 12 rfl) (by decide) ?_
        refine lv_goto (tgt := 25) C.1 C.2.1 (dk_at dkX5_keep 13 rfl) (by decide) ?_
        cases hf
        exact J6 _ _ _ w (lv_sub hl [0, 1] rfl)
    · have hf := (if_neg c2).symm.trans hf
      refine lv_iconst (v := (-1)) C.1 C.2.1 (dk_at dkX5_keep 5 rfl) (by decide) ?_
      cases hf
      exact fin _ _ _ _ _ (dk_at dkX5_keep 6 rfl) rfl w
-- X5.back
abbrev tbX5_back : List (Nat × Instr × Nat) := [(0, .iload_n 1, 1), (1, .ifCond .lt 8, 3), (4, .iload_n 1, 1), (5, .iconst 2, 1), (6, .if_icmp .lt 5, 3), (9, .iconst (-1), 1), (10, .ireturn, 1), (11, .aload_n 0, 1), (12, .getfield 41, 3), (15, .iload_n 1, 1), (16, .baload, 1), (17, .ifCond .ne 6, 3), (20, .bipush (-2), 2), (22, .ireturn, 1), (23, .aload_n 0, 1), (24, .getfield 19, 3), (27, .aload_n 0, 1), (28, .getfield 37, 3), (31, .iload_n 1, 1), (32, .aaload, 1), (33, .invokevirtual 73, 3), (36, .aload_n 0, 1), (37, .getfield 19, 3), (40, .getfield 77, 3), (43, .ireturn, 1)]
theorem dkX5_back : dk cX5_back tbX5_back := dk_of (by decide +kernel)
abbrev cdX5_back : Cond := Cond.code yX5_back cX5_back 2 (some .int)
abbrev rmX5_back : Room := { frames := 2, cells := 0, slots := 0, locals := 40 }
theorem mwX5_back : Cond.instanceMethod yX5_back ∈ wsL_law ∧ Cond.selects RX5 yX5_back yX5_back ∈ wsL_law ∧ Cond.initialized RX5 ∈ wsL_law ∧ cdX5_back ∈ wsL_law := ⟨inr39 _ (List.mem_of_getElem? (i := 3) rfl), inr39 _ (List.mem_of_getElem? (i := 4) rfl), inr1 _ (List.mem_of_getElem? (i := 2) rfl), inr39 _ (List.mem_of_getElem? (i := 5) rfl)⟩
theorem hdX5_back : yX5_back.cls = RX5 ∧ yX5_back.cls ≠ "java/lang/invoke/MethodHandle" ∧ yX5_back.cls ≠ "java/lang/invoke/VarHandle" ∧ (parseMethodDescriptor yX5_back.desc).map (fun d => d.parameters.length) = some 1 := by decide +kernel
set_option maxHeartbeats 4000000 in
set_option maxRecDepth 100000 in
theorem kX5_back (l : Launch) (g : Gx) (sz : Nat) (a_v a_rd a_nw a_tr a_da a_i0 a_i1 a_s0 a_s1 a_s2 a_s3 : Nat → Nat) (v : VT) (nw : CT) (i0 : CT) (i1 : CT) (p1 : Int32) (res : Int32) (nw_o : CT) (hf : fX5_back p1 v nw i0 i1 = some (res, nw_o)) : Met l yX5_back (cdX5_back :: wsL_law) rmX5_back (va_Pc [.ref (a_v 0), .int p1] (RWp g sz (wV g a_v a_rd a_nw a_tr a_da a_i0 a_i1 a_s0 a_s1 a_s2 a_s3 v ++ wC g a_nw nw ++ wC g a_i0 i0 ++ wC g a_i1 i1))) (va_Qi (fun x (_ : Unit) => x = res) (fun _ => RWq g (va_A (wV g a_v a_rd a_nw a_tr a_da a_i0 a_i1 a_s0 a_s1 a_s2 a_s3 v ++ wC g a_nw nw ++ wC g a_i0 i0 ++ wC g a_i1 i1) sz) (wV g a_v a_rd a_nw a_tr a_da a_i0 a_i1 a_s0 a_s1 a_s2 a_s3 v ++ wC g a_nw nw_o ++ wC g a_i0 i0 ++ wC g a_i1 i1)) (va_A (wV g a_v a_rd a_nw a_tr a_da a_i0 a_i1 a_s0 a_s1 a_s2 a_s3 v ++ wC g a_nw nw ++ wC g a_i0 i0 ++ wC g a_i1 i1) sz)) 0 0 (va_A (wV g a_v a_rd a_nw a_tr a_da a_i0 a_i1 a_s0 a_s1 a_s2 a_s3 v ++ wC g a_nw nw ++ wC g a_i0 i0 ++ wC g a_i1 i1) sz) := by
  refine Met_rwi (cc := cX5_back) (maxL := 2) (by decide) rfl (Nat.le_of_ble_eq_true rfl) ?_
  intro P E Z Mi AR BE ME CO A Q C hK hA fin w ls hl
  have hl : lv_has ls 2 [(0, .ref (a_v 0)), (1, .int p1)] := hl
  unfold fX5_back at hf
  refine lv_iload_n C.1 C.2.1 (dk_at dkX5_back 0 rfl) rfl (lv_at hl 1 rfl) ?_
  refine lv_if_lt (tgt := 9) C.1 C.2.1 (dk_at dkX5_back 1 rfl) (by decide) (fun c1 => ?_) (fun c1 => ?_)
  · have hf := (if_pos c1).symm.trans hf
    refine lv_iconst (v := (-1)) C.1 C.2.1 (dk_at dkX5_back 5 rfl) (by decide) ?_
    cases hf
    exact fin _ _ _ _ _ (dk_at dkX5_back 6 rfl) rfl w
  · have hf := (if_neg c1).symm.trans hf
    refine lv_iload_n C.1 C.2.1 (dk_at dkX5_back 2 rfl) rfl (lv_at hl 1 rfl) ?_
    refine lv_iconst (v := 2) C.1 C.2.1 (dk_at dkX5_back 3 rfl) (by decide) ?_
    refine lv_icmp_lt (tgt := 11) C.1 C.2.1 (dk_at dkX5_back 4 rfl) (by decide) (fun c2 => ?_) (fun c2 => ?_)
    · have hf := (if_pos c2).symm.trans hf
      refine lv_aload_n C.1 C.2.1 (dk_at dkX5_back 7 rfl) rfl (lv_at hl 0 rfl) ?_
      refine r_get (v := .ref (a_v 3)) C hK w.1 (fun w h => List.mem_cons_of_mem _ (inlX5 w h)) 0 rfl rfl 6 (by decide) (List.mem_cons_of_mem _ (inr2 _ (List.mem_of_getElem? (i := 5) rfl))) rfl (dk_at dkX5_back 8 rfl) ?_
      refine lv_iload_n C.1 C.2.1 (dk_at dkX5_back 9 rfl) rfl (lv_at hl 1 rfl) ?_
      obtain ⟨h3, hf⟩ := gd_at hf
      refine r_zald (k := p1.toNatClampNeg) (f := (vKe v)) C hK w.1 3 rfl h3 rfl (dk_at dkX5_back 10 rfl) ?_
      refine lv_if_ne (tgt := 23) C.1 C.2.1 (dk_at dkX5_back 11 rfl) (by decide) (fun c4 => ?_) (fun c4 => ?_)
      · have hf := (if_neg c4).symm.trans hf
        refine lv_aload_n C.1 C.2.1 (dk_at dkX5_back 14 rfl) rfl (lv_at hl 0 rfl) ?_
        refine r_get (v := .ref (a_nw 0)) C hK w.1 (fun w h => List.mem_cons_of_mem _ (inlX5 w h)) 0 rfl rfl 1 (by decide) (List.mem_cons_of_mem _ (inr1 _ (List.mem_of_getElem? (i := 19) rfl))) rfl (dk_at dkX5_back 15 rfl) ?_
        refine lv_aload_n C.1 C.2.1 (dk_at dkX5_back 16 rfl) rfl (lv_at hl 0 rfl) ?_
        refine r_get (v := .ref (a_v 2)) C hK w.1 (fun w h => List.mem_cons_of_mem _ (inlX5 w h)) 0 rfl rfl 5 (by decide) (List.mem_cons_of_mem _ (inr2 _ (List.mem_of_getElem? (i := 3) rfl))) rfl (dk_at dkX5_back 17 rfl) ?_
        refine lv_iload_n C.1 C.2.1 (dk_at dkX5_back 18 rfl) rfl (lv_at hl 1 rfl) ?_
        obtain ⟨h5, hf⟩ := gd_at hf
        rcases lt2 (in_lt h5) with hs | hs
        · have hf : _ := (if_pos hs).symm.trans hf
          refine r_aldc (b := a_i0 0) C hK w.1 2 rfl h5 (by rw [hs]; rfl) (dk_at dkX5_back 19 rfl) ?_
          obtain ⟨nw_6, hq7, hf⟩ := bd1_at hf
          refine r_rwv (As := [.ref (a_i0 0)]) (rest := []) (wr := wV g a_v a_rd a_nw a_tr a_da a_i0 a_i1 a_s0 a_s1 a_s2 a_s3 v ++ wC g a_i1 i1) (ws' := wV g a_v a_rd a_nw a_tr a_da a_i0 a_i1 a_s0 a_s1 a_s2 a_s3 v ++ wC g a_nw nw_6 ++ wC g a_i0 i0 ++ wC g a_i1 i1) C (kX0_copyTo l g _ a_nw a_i0 nw i0 nw_6 hq7) (cwV0 C (inr12 _ (List.mem_of_getElem? (i := 6) rfl)) mwX0_copyFrom hdX0_copyFrom ⟨Nat.le_of_ble_eq_true rfl, Nat.le_of_ble_eq_true rfl⟩) hK w hA [5, 6, 7, 8, 9, 10, 11, 12, 13, 14, 15, 16, 17, 18, 19, 20, 21, 22, 23, 24, 25, 26] [0, 1, 2, 3, 4, 27, 28, 29, 30, 31, 32, 33, 34, 35, 36, 37] [0, 1, 2, 3, 4, 16, 17, 18, 19, 20, 21, 22, 23, 24, 25, 26, 27, 28, 29, 30, 31, 32, 33, 34, 35, 36, 37, 5, 6, 7, 8, 9, 10, 11, 12, 13, 14, 15] (by decide) rfl rfl (by decide) (by decide) rfl (by decide) rfl rfl rfl hl.1 rfl (Nat.le_of_ble_eq_true rfl) ⟨Nat.zero_le _, Nat.zero_le _⟩ (dk_at dkX5_back 20 rfl) (fun H locs w => ?_)
          refine lv_aload_n C.1 C.2.1 (dk_at dkX5_back 21 rfl) rfl (lv_at hl 0 rfl) ?_
          refine r_get (v := .ref (a_nw 0)) C hK w.1 (fun w h => List.mem_cons_of_mem _ (inlX5 w h)) 0 rfl rfl 1 (by decide) (List.mem_cons_of_mem _ (inr1 _ (List.mem_of_getElem? (i := 19) rfl))) rfl (dk_at dkX5_back 22 rfl) ?_
          refine r_get (v := .int (cSa nw_6)) C hK w.1 (fun w h => List.mem_cons_of_mem _ (inlX0 w h)) 5 rfl rfl 3 (by decide) (List.mem_cons_of_mem _ (inr16 _ (List.mem_of_getElem? (i := 15) rfl))) rfl (dk_at dkX5_back 23 rfl) ?_
          cases hf
          exact fin _ _ _ _ _ (dk_at dkX5_back 24 rfl) rfl w
        · have hf : _ := (if_neg (by rw [hs]; decide)).symm.trans hf
          refine r_aldc (b := a_i1 0) C hK w.1 2 rfl h5 (by rw [hs]; rfl) (dk_at dkX5_back 19 rfl) ?_
          obtain ⟨nw_8, hq9, hf⟩ := bd1_at hf
          refine r_rwv (As := [.ref (a_i1 0)]) (rest := []) (wr := wV g a_v a_rd a_nw a_tr a_da a_i0 a_i1 a_s0 a_s1 a_s2 a_s3 v ++ wC g a_i0 i0) (ws' := wV g a_v a_rd a_nw a_tr a_da a_i0 a_i1 a_s0 a_s1 a_s2 a_s3 v ++ wC g a_nw nw_8 ++ wC g a_i0 i0 ++ wC g a_i1 i1) C (kX0_copyTo l g _ a_nw a_i1 nw i1 nw_8 hq9) (cwV0 C (inr12 _ (List.mem_of_getElem? (i := 6) rfl)) mwX0_copyFrom hdX0_copyFrom ⟨Nat.le_of_ble_eq_true rfl, Nat.le_of_ble_eq_true rfl⟩) hK w hA [5, 6, 7, 8, 9, 10, 11, 12, 13, 14, 15, 27, 28, 29, 30, 31, 32, 33, 34, 35, 36, 37] [0, 1, 2, 3, 4, 16, 17, 18, 19, 20, 21, 22, 23, 24, 25, 26] [0, 1, 2, 3, 4, 16, 17, 18, 19, 20, 21, 22, 23, 24, 25, 26, 5, 6, 7, 8, 9, 10, 11, 12, 13, 14, 15, 27, 28, 29, 30, 31, 32, 33, 34, 35, 36, 37] (by decide) rfl rfl (by decide) (by decide) rfl (by decide) rfl rfl rfl hl.1 rfl (Nat.le_of_ble_eq_true rfl) ⟨Nat.zero_le _, Nat.zero_le _⟩ (dk_at dkX5_back 20 rfl) (fun H locs w => ?_)
          refine lv_aload_n C.1 C.2.1 (dk_at dkX5_back 21 rfl) rfl (lv_at hl 0 rfl) ?_
          refine r_get (v := .ref (a_nw 0)) C hK w.1 (fun w h => List.mem_cons_of_mem _ (inlX5 w h)) 0 rfl rfl 1 (by decide) (List.mem_cons_of_mem _ (inr1 _ (List.mem_of_getElem? (i := 19) rfl))) rfl (dk_at dkX5_back 22 rfl) ?_
          refine r_get (v := .int (cSa nw_8)) C hK w.1 (fun w h => List.mem_cons_of_mem _ (inlX0 w h)) 5 rfl rfl 3 (by decide) (List.mem_cons_of_mem _ (inr16 _ (List.mem_of_getElem? (i := 15) rfl))) rfl (dk_at dkX5_back 23 rfl) ?_
          cases hf
          exact fin _ _ _ _ _ (dk_at dkX5_back 24 rfl) rfl w
      · have hf := (if_pos c4).symm.trans hf
        refine lv_bipush (v := (-2)) C.1 C.2.1 (dk_at dkX5_back 12 rfl) (by decide) ?_
        cases hf
        exact fin _ _ _ _ _ (dk_at dkX5_back 13 rfl) rfl w
    · have hf := (if_neg c2).symm.trans hf
      refine lv_iconst (v := (-1)) C.1 C.2.1 (dk_at dkX5_back 5 rfl) (by decide) ?_
      cases hf
      exact fin _ _ _ _ _ (dk_at dkX5_back 6 rfl) rfl w
-- X5.sheet
abbrev tbX5_sheet : List (Nat × Instr × Nat) := [(0, .iload_n 1, 1), (1, .ifCond .lt 23, 3), (4, .iload_n 1, 1), (5, .iconst 4, 1), (6, .if_icmp .ge 18, 3), (9, .iload_n 2, 1), (10, .ifCond .lt 14, 3), (13, .iload_n 2, 1), (14, .iconst 3, 1), (15, .if_icmp .ge 9, 3), (18, .iload_n 3, 1), (19, .bipush 40, 2), (21, .if_icmp .le 5, 3), (24, .iconst (-1), 1), (25, .ireturn, 1), (26, .iload_n 3, 1), (27, .ifCond .ge 6, 3), (30, .bipush (-14), 2), (32, .ireturn, 1), (33, .aload_n 0, 1), (34, .getfield 47, 3), (37, .iload_n 1, 1), (38, .aaload, 1), (39, .iload_n 2, 1), (40, .iload_n 3, 1), (41, .invokevirtual 235, 3), (44, .iconst 1, 1), (45, .ireturn, 1)]
theorem dkX5_sheet : dk cX5_sheet tbX5_sheet := dk_of (by decide +kernel)
abbrev cdX5_sheet : Cond := Cond.code yX5_sheet cX5_sheet 4 (some .int)
abbrev rmX5_sheet : Room := { frames := 1, cells := 0, slots := 0, locals := 23 }
theorem mwX5_sheet : Cond.instanceMethod yX5_sheet ∈ wsL_law ∧ Cond.selects RX5 yX5_sheet yX5_sheet ∈ wsL_law ∧ Cond.initialized RX5 ∈ wsL_law ∧ cdX5_sheet ∈ wsL_law := ⟨inr39 _ (List.mem_of_getElem? (i := 11) rfl), inr39 _ (List.mem_of_getElem? (i := 12) rfl), inr1 _ (List.mem_of_getElem? (i := 2) rfl), inr39 _ (List.mem_of_getElem? (i := 13) rfl)⟩
theorem hdX5_sheet : yX5_sheet.cls = RX5 ∧ yX5_sheet.cls ≠ "java/lang/invoke/MethodHandle" ∧ yX5_sheet.cls ≠ "java/lang/invoke/VarHandle" ∧ (parseMethodDescriptor yX5_sheet.desc).map (fun d => d.parameters.length) = some 3 := by decide +kernel
set_option maxHeartbeats 4000000 in
set_option maxRecDepth 100000 in
theorem kX5_sheet (l : Launch) (g : Gx) (sz : Nat) (a_v a_rd a_nw a_tr a_da a_i0 a_i1 a_s0 a_s1 a_s2 a_s3 : Nat → Nat) (v : VT) (s0 : ST) (s1 : ST) (s2 : ST) (s3 : ST) (p1 : Int32) (p2 : Int32) (p3 : Int32) (res : Int32) (s0_o : ST) (s1_o : ST) (s2_o : ST) (s3_o : ST) (hf : fX5_sheet p1 p2 p3 v s0 s1 s2 s3 = some (res, s0_o, s1_o, s2_o, s3_o)) : Met l yX5_sheet (cdX5_sheet :: wsL_law) rmX5_sheet (va_Pc [.ref (a_v 0), .int p1, .int p2, .int p3] (RWp g sz (wV g a_v a_rd a_nw a_tr a_da a_i0 a_i1 a_s0 a_s1 a_s2 a_s3 v ++ wS g a_s0 s0 ++ wS g a_s1 s1 ++ wS g a_s2 s2 ++ wS g a_s3 s3))) (va_Qi (fun x (_ : Unit) => x = res) (fun _ => RWq g (va_A (wV g a_v a_rd a_nw a_tr a_da a_i0 a_i1 a_s0 a_s1 a_s2 a_s3 v ++ wS g a_s0 s0 ++ wS g a_s1 s1 ++ wS g a_s2 s2 ++ wS g a_s3 s3) sz) (wV g a_v a_rd a_nw a_tr a_da a_i0 a_i1 a_s0 a_s1 a_s2 a_s3 v ++ wS g a_s0 s0_o ++ wS g a_s1 s1_o ++ wS g a_s2 s2_o ++ wS g a_s3 s3_o)) (va_A (wV g a_v a_rd a_nw a_tr a_da a_i0 a_i1 a_s0 a_s1 a_s2 a_s3 v ++ wS g a_s0 s0 ++ wS g a_s1 s1 ++ wS g a_s2 s2 ++ wS g a_s3 s3) sz)) 0 0 (va_A (wV g a_v a_rd a_nw a_tr a_da a_i0 a_i1 a_s0 a_s1 a_s2 a_s3 v ++ wS g a_s0 s0 ++ wS g a_s1 s1 ++ wS g a_s2 s2 ++ wS g a_s3 s3) sz) := by
  refine Met_rwi (cc := cX5_sheet) (maxL := 4) (by decide) rfl (Nat.le_of_ble_eq_true rfl) ?_
  intro P E Z Mi AR BE ME CO A Q C hK hA fin w ls hl
  have hl : lv_has ls 4 [(0, .ref (a_v 0)), (1, .int p1), (2, .int p2), (3, .int p3)] := hl
  unfold fX5_sheet at hf
  refine lv_iload_n C.1 C.2.1 (dk_at dkX5_sheet 0 rfl) rfl (lv_at hl 1 rfl) ?_
  refine lv_if_lt (tgt := 24) C.1 C.2.1 (dk_at dkX5_sheet 1 rfl) (by decide) (fun c1 => ?_) (fun c1 => ?_)
  · have hf := (if_pos c1).symm.trans hf
    refine lv_iconst (v := (-1)) C.1 C.2.1 (dk_at dkX5_sheet 13 rfl) (by decide) ?_
    cases hf
    exact fin _ _ _ _ _ (dk_at dkX5_sheet 14 rfl) rfl w
  · have hf := (if_neg c1).symm.trans hf
    refine lv_iload_n C.1 C.2.1 (dk_at dkX5_sheet 2 rfl) rfl (lv_at hl 1 rfl) ?_
    refine lv_iconst (v := 4) C.1 C.2.1 (dk_at dkX5_sheet 3 rfl) (by decide) ?_
    refine lv_icmp_ge (tgt := 24) C.1 C.2.1 (dk_at dkX5_sheet 4 rfl) (by decide) (fun c2 => ?_) (fun c2 => ?_)
    · have hf := (if_pos c2).symm.trans hf
      refine lv_iconst (v := (-1)) C.1 C.2.1 (dk_at dkX5_sheet 13 rfl) (by decide) ?_
      cases hf
      exact fin _ _ _ _ _ (dk_at dkX5_sheet 14 rfl) rfl w
    · have hf := (if_neg c2).symm.trans hf
      refine lv_iload_n C.1 C.2.1 (dk_at dkX5_sheet 5 rfl) rfl (lv_at hl 2 rfl) ?_
      refine lv_if_lt (tgt := 24) C.1 C.2.1 (dk_at dkX5_sheet 6 rfl) (by decide) (fun c3 => ?_) (fun c3 => ?_)
      · have hf := (if_pos c3).symm.trans hf
        refine lv_iconst (v := (-1)) C.1 C.2.1 (dk_at dkX5_sheet 13 rfl) (by decide) ?_
        cases hf
        exact fin _ _ _ _ _ (dk_at dkX5_sheet 14 rfl) rfl w
      · have hf := (if_neg c3).symm.trans hf
        refine lv_iload_n C.1 C.2.1 (dk_at dkX5_sheet 7 rfl) rfl (lv_at hl 2 rfl) ?_
        refine lv_iconst (v := 3) C.1 C.2.1 (dk_at dkX5_sheet 8 rfl) (by decide) ?_
        refine lv_icmp_ge (tgt := 24) C.1 C.2.1 (dk_at dkX5_sheet 9 rfl) (by decide) (fun c4 => ?_) (fun c4 => ?_)
        · have hf := (if_pos c4).symm.trans hf
          refine lv_iconst (v := (-1)) C.1 C.2.1 (dk_at dkX5_sheet 13 rfl) (by decide) ?_
          cases hf
          exact fin _ _ _ _ _ (dk_at dkX5_sheet 14 rfl) rfl w
        · have hf := (if_neg c4).symm.trans hf
          refine lv_iload_n C.1 C.2.1 (dk_at dkX5_sheet 10 rfl) rfl (lv_at hl 3 rfl) ?_
          refine lv_bipush (v := 40) C.1 C.2.1 (dk_at dkX5_sheet 11 rfl) (by decide) ?_
          refine lv_icmp_le (tgt := 26) C.1 C.2.1 (dk_at dkX5_sheet 12 rfl) (by decide) (fun c5 => ?_) (fun c5 => ?_)
          · have hf := (if_pos c5).symm.trans hf
            refine lv_iload_n C.1 C.2.1 (dk_at dkX5_sheet 15 rfl) rfl (lv_at hl 3 rfl) ?_
            refine lv_if_ge (tgt := 33) C.1 C.2.1 (dk_at dkX5_sheet 16 rfl) (by decide) (fun c6 => ?_) (fun c6 => ?_)
            · have hf := (if_pos c6).symm.trans hf
              refine lv_aload_n C.1 C.2.1 (dk_at dkX5_sheet 19 rfl) rfl (lv_at hl 0 rfl) ?_
              refine r_get (v := .ref (a_v 4)) C hK w.1 (fun w h => List.mem_cons_of_mem _ (inlX5 w h)) 0 rfl rfl 7 (by decide) (List.mem_cons_of_mem _ (inr2 _ (List.mem_of_getElem? (i := 7) rfl))) rfl (dk_at dkX5_sheet 20 rfl) ?_
              refine lv_iload_n C.1 C.2.1 (dk_at dkX5_sheet 21 rfl) rfl (lv_at hl 1 rfl) ?_
              obtain ⟨h7, hf⟩ := gd_at hf
              rcases lt4 (in_lt h7) with hs | hs | hs | hs
              · have hf : _ := (if_pos hs).symm.trans hf
                refine r_alds (b := a_s0 0) C hK w.1 4 rfl h7 (by rw [hs]; rfl) (dk_at dkX5_sheet 22 rfl) ?_
                refine lv_iload_n C.1 C.2.1 (dk_at dkX5_sheet 23 rfl) rfl (lv_at hl 2 rfl) ?_
                refine lv_iload_n C.1 C.2.1 (dk_at dkX5_sheet 24 rfl) rfl (lv_at hl 3 rfl) ?_
                obtain ⟨s0_8, hq9, hf⟩ := bd1_at hf
                refine r_rwv (As := [.int p2, .int p3]) (rest := []) (wr := wV g a_v a_rd a_nw a_tr a_da a_i0 a_i1 a_s0 a_s1 a_s2 a_s3 v ++ wS g a_s1 s1 ++ wS g a_s2 s2 ++ wS g a_s3 s3) (ws' := wV g a_v a_rd a_nw a_tr a_da a_i0 a_i1 a_s0 a_s1 a_s2 a_s3 v ++ wS g a_s0 s0_8 ++ wS g a_s1 s1 ++ wS g a_s2 s2 ++ wS g a_s3 s3) C (kX4_renew l g _ a_s0 s0 p2 p3 s0_8 hq9) (cwV0 C (inr39 _ (List.mem_of_getElem? (i := 14) rfl)) mwX4_renew hdX4_renew ⟨Nat.le_of_ble_eq_true rfl, Nat.le_of_ble_eq_true rfl⟩) hK w hA [5, 6] [0, 1, 2, 3, 4, 7, 8, 9, 10, 11, 12] [0, 1, 2, 3, 4, 11, 12, 5, 6, 7, 8, 9, 10] (by decide) rfl rfl (by decide) (by decide) rfl (by decide) rfl rfl rfl hl.1 rfl (Nat.le_of_ble_eq_true rfl) ⟨Nat.zero_le _, Nat.zero_le _⟩ (dk_at dkX5_sheet 25 rfl) (fun H locs w => ?_)
                refine lv_iconst (v := 1) C.1 C.2.1 (dk_at dkX5_sheet 26 rfl) (by decide) ?_
                cases hf
                exact fin _ _ _ _ _ (dk_at dkX5_sheet 27 rfl) rfl w
              · have hf : _ := ((if_neg (by rw [hs]; decide)).trans (if_pos hs)).symm.trans hf
                refine r_alds (b := a_s1 0) C hK w.1 4 rfl h7 (by rw [hs]; rfl) (dk_at dkX5_sheet 22 rfl) ?_
                refine lv_iload_n C.1 C.2.1 (dk_at dkX5_sheet 23 rfl) rfl (lv_at hl 2 rfl) ?_
                refine lv_iload_n C.1 C.2.1 (dk_at dkX5_sheet 24 rfl) rfl (lv_at hl 3 rfl) ?_
                obtain ⟨s1_10, hq11, hf⟩ := bd1_at hf
                refine r_rwv (As := [.int p2, .int p3]) (rest := []) (wr := wV g a_v a_rd a_nw a_tr a_da a_i0 a_i1 a_s0 a_s1 a_s2 a_s3 v ++ wS g a_s0 s0 ++ wS g a_s2 s2 ++ wS g a_s3 s3) (ws' := wV g a_v a_rd a_nw a_tr a_da a_i0 a_i1 a_s0 a_s1 a_s2 a_s3 v ++ wS g a_s0 s0 ++ wS g a_s1 s1_10 ++ wS g a_s2 s2 ++ wS g a_s3 s3) C (kX4_renew l g _ a_s1 s1 p2 p3 s1_10 hq11) (cwV0 C (inr39 _ (List.mem_of_getElem? (i := 14) rfl)) mwX4_renew hdX4_renew ⟨Nat.le_of_ble_eq_true rfl, Nat.le_of_ble_eq_true rfl⟩) hK w hA [7, 8] [0, 1, 2, 3, 4, 5, 6, 9, 10, 11, 12] [0, 1, 2, 3, 4, 5, 6, 11, 12, 7, 8, 9, 10] (by decide) rfl rfl (by decide) (by decide) rfl (by decide) rfl rfl rfl hl.1 rfl (Nat.le_of_ble_eq_true rfl) ⟨Nat.zero_le _, Nat.zero_le _⟩ (dk_at dkX5_sheet 25 rfl) (fun H locs w => ?_)
                refine lv_iconst (v := 1) C.1 C.2.1 (dk_at dkX5_sheet 26 rfl) (by decide) ?_
                cases hf
                exact fin _ _ _ _ _ (dk_at dkX5_sheet 27 rfl) rfl w
              · have hf : _ := (((if_neg (by rw [hs]; decide)).trans (if_neg (by rw [hs]; decide))).trans (if_pos hs)).symm.trans hf
                refine r_alds (b := a_s2 0) C hK w.1 4 rfl h7 (by rw [hs]; rfl) (dk_at dkX5_sheet 22 rfl) ?_
                refine lv_iload_n C.1 C.2.1 (dk_at dkX5_sheet 23 rfl) rfl (lv_at hl 2 rfl) ?_
                refine lv_iload_n C.1 C.2.1 (dk_at dkX5_sheet 24 rfl) rfl (lv_at hl 3 rfl) ?_
                obtain ⟨s2_12, hq13, hf⟩ := bd1_at hf
                refine r_rwv (As := [.int p2, .int p3]) (rest := []) (wr := wV g a_v a_rd a_nw a_tr a_da a_i0 a_i1 a_s0 a_s1 a_s2 a_s3 v ++ wS g a_s0 s0 ++ wS g a_s1 s1 ++ wS g a_s3 s3) (ws' := wV g a_v a_rd a_nw a_tr a_da a_i0 a_i1 a_s0 a_s1 a_s2 a_s3 v ++ wS g a_s0 s0 ++ wS g a_s1 s1 ++ wS g a_s2 s2_12 ++ wS g a_s3 s3) C (kX4_renew l g _ a_s2 s2 p2 p3 s2_12 hq13) (cwV0 C (inr39 _ (List.mem_of_getElem? (i := 14) rfl)) mwX4_renew hdX4_renew ⟨Nat.le_of_ble_eq_true rfl, Nat.le_of_ble_eq_true rfl⟩) hK w hA [9, 10] [0, 1, 2, 3, 4, 5, 6, 7, 8, 11, 12] [0, 1, 2, 3, 4, 5, 6, 7, 8, 11, 12, 9, 10] (by decide) rfl rfl (by decide) (by decide) rfl (by decide) rfl rfl rfl hl.1 rfl (Nat.le_of_ble_eq_true rfl) ⟨Nat.zero_le _, Nat.zero_le _⟩ (dk_at dkX5_sheet 25 rfl) (fun H locs w => ?_)
                refine lv_iconst (v := 1) C.1 C.2.1 (dk_at dkX5_sheet 26 rfl) (by decide) ?_
                cases hf
                exact fin _ _ _ _ _ (dk_at dkX5_sheet 27 rfl) rfl w
              · have hf : _ := (((if_neg (by rw [hs]; decide)).trans (if_neg (by rw [hs]; decide))).trans (if_neg (by rw [hs]; decide))).symm.trans hf
                refine r_alds (b := a_s3 0) C hK w.1 4 rfl h7 (by rw [hs]; rfl) (dk_at dkX5_sheet 22 rfl) ?_
                refine lv_iload_n C.1 C.2.1 (dk_at dkX5_sheet 23 rfl) rfl (lv_at hl 2 rfl) ?_
                refine lv_iload_n C.1 C.2.1 (dk_at dkX5_sheet 24 rfl) rfl (lv_at hl 3 rfl) ?_
                obtain ⟨s3_14, hq15, hf⟩ := bd1_at hf
                refine r_rwv (As := [.int p2, .int p3]) (rest := []) (wr := wV g a_v a_rd a_nw a_tr a_da a_i0 a_i1 a_s0 a_s1 a_s2 a_s3 v ++ wS g a_s0 s0 ++ wS g a_s1 s1 ++ wS g a_s2 s2) (ws' := wV g a_v a_rd a_nw a_tr a_da a_i0 a_i1 a_s0 a_s1 a_s2 a_s3 v ++ wS g a_s0 s0 ++ wS g a_s1 s1 ++ wS g a_s2 s2 ++ wS g a_s3 s3_14) C (kX4_renew l g _ a_s3 s3 p2 p3 s3_14 hq15) (cwV0 C (inr39 _ (List.mem_of_getElem? (i := 14) rfl)) mwX4_renew hdX4_renew ⟨Nat.le_of_ble_eq_true rfl, Nat.le_of_ble_eq_true rfl⟩) hK w hA [11, 12] [0, 1, 2, 3, 4, 5, 6, 7, 8, 9, 10] [0, 1, 2, 3, 4, 5, 6, 7, 8, 9, 10, 11, 12] (by decide) rfl rfl (by decide) (by decide) rfl (by decide) rfl rfl rfl hl.1 rfl (Nat.le_of_ble_eq_true rfl) ⟨Nat.zero_le _, Nat.zero_le _⟩ (dk_at dkX5_sheet 25 rfl) (fun H locs w => ?_)
                refine lv_iconst (v := 1) C.1 C.2.1 (dk_at dkX5_sheet 26 rfl) (by decide) ?_
                cases hf
                exact fin _ _ _ _ _ (dk_at dkX5_sheet 27 rfl) rfl w
            · have hf := (if_neg c6).symm.trans hf
              refine lv_bipush (v := (-14)) C.1 C.2.1 (dk_at dkX5_sheet 17 rfl) (by decide) ?_
              cases hf
              exact fin _ _ _ _ _ (dk_at dkX5_sheet 18 rfl) rfl w
          · have hf := (if_neg c5).symm.trans hf
            refine lv_iconst (v := (-1)) C.1 C.2.1 (dk_at dkX5_sheet 13 rfl) (by decide) ?_
            cases hf
            exact fin _ _ _ _ _ (dk_at dkX5_sheet 14 rfl) rfl w
-- X5.lay
abbrev tbX5_lay : List (Nat × Instr × Nat) := [(0, .iload_n 1, 1), (1, .ifCond .lt 8, 3), (4, .iload_n 1, 1), (5, .iconst 4, 1), (6, .if_icmp .lt 5, 3), (9, .iconst (-1), 1), (10, .ireturn, 1), (11, .aload_n 0, 1), (12, .getfield 47, 3), (15, .iload_n 1, 1), (16, .aaload, 1), (17, .aload_n 0, 1), (18, .getfield 47, 3), (21, .iload_n 1, 1), (22, .aaload, 1), (23, .getfield 239, 3), (26, .iload_n 2, 1), (27, .invokevirtual 242, 3), (30, .istore 4, 2), (32, .iload 4, 2), (34, .ifCond .eq 9, 3), (37, .bipush (-10), 2), (39, .iload 4, 2), (41, .isub, 1), (42, .ireturn, 1), (43, .aload_n 0, 1), (44, .getfield 47, 3), (47, .iload_n 1, 1), (48, .aaload, 1), (49, .iload_n 2, 1), (50, .iload_n 3, 1), (51, .invokevirtual 245, 3), (54, .iconst 1, 1), (55, .ireturn, 1)]
theorem dkX5_lay : dk cX5_lay tbX5_lay := dk_of (by decide +kernel)
abbrev cdX5_lay : Cond := Cond.code yX5_lay cX5_lay 5 (some .int)
abbrev rmX5_lay : Room := { frames := 1, cells := 0, slots := 0, locals := 22 }
theorem mwX5_lay : Cond.instanceMethod yX5_lay ∈ wsL_law ∧ Cond.selects RX5 yX5_lay yX5_lay ∈ wsL_law ∧ Cond.initialized RX5 ∈ wsL_law ∧ cdX5_lay ∈ wsL_law := ⟨inr40 _ (List.mem_of_getElem? (i := 5) rfl), inr40 _ (List.mem_of_getElem? (i := 6) rfl), inr1 _ (List.mem_of_getElem? (i := 2) rfl), inr40 _ (List.mem_of_getElem? (i := 7) rfl)⟩
theorem hdX5_lay : yX5_lay.cls = RX5 ∧ yX5_lay.cls ≠ "java/lang/invoke/MethodHandle" ∧ yX5_lay.cls ≠ "java/lang/invoke/VarHandle" ∧ (parseMethodDescriptor yX5_lay.desc).map (fun d => d.parameters.length) = some 3 := by decide +kernel
set_option maxHeartbeats 4000000 in
set_option maxRecDepth 100000 in
theorem kX5_lay (l : Launch) (g : Gx) (sz : Nat) (a_v a_rd a_nw a_tr a_da a_i0 a_i1 a_s0 a_s1 a_s2 a_s3 : Nat → Nat) (v : VT) (s0 : ST) (s1 : ST) (s2 : ST) (s3 : ST) (p1 : Int32) (p2 : Int32) (p3 : Int32) (res : Int32) (s0_o : ST) (s1_o : ST) (s2_o : ST) (s3_o : ST) (hf : fX5_lay p1 p2 p3 v s0 s1 s2 s3 = some (res, s0_o, s1_o, s2_o, s3_o)) : Met l yX5_lay (cdX5_lay :: wsL_law) rmX5_lay (va_Pc [.ref (a_v 0), .int p1, .int p2, .int p3] (RWp g sz (wV g a_v a_rd a_nw a_tr a_da a_i0 a_i1 a_s0 a_s1 a_s2 a_s3 v ++ wS g a_s0 s0 ++ wS g a_s1 s1 ++ wS g a_s2 s2 ++ wS g a_s3 s3))) (va_Qi (fun x (_ : Unit) => x = res) (fun _ => RWq g (va_A (wV g a_v a_rd a_nw a_tr a_da a_i0 a_i1 a_s0 a_s1 a_s2 a_s3 v ++ wS g a_s0 s0 ++ wS g a_s1 s1 ++ wS g a_s2 s2 ++ wS g a_s3 s3) sz) (wV g a_v a_rd a_nw a_tr a_da a_i0 a_i1 a_s0 a_s1 a_s2 a_s3 v ++ wS g a_s0 s0_o ++ wS g a_s1 s1_o ++ wS g a_s2 s2_o ++ wS g a_s3 s3_o)) (va_A (wV g a_v a_rd a_nw a_tr a_da a_i0 a_i1 a_s0 a_s1 a_s2 a_s3 v ++ wS g a_s0 s0 ++ wS g a_s1 s1 ++ wS g a_s2 s2 ++ wS g a_s3 s3) sz)) 0 0 (va_A (wV g a_v a_rd a_nw a_tr a_da a_i0 a_i1 a_s0 a_s1 a_s2 a_s3 v ++ wS g a_s0 s0 ++ wS g a_s1 s1 ++ wS g a_s2 s2 ++ wS g a_s3 s3) sz) := by
  refine Met_rwi (cc := cX5_lay) (maxL := 5) (by decide) rfl (Nat.le_of_ble_eq_true rfl) ?_
  intro P E Z Mi AR BE ME CO A Q C hK hA fin w ls hl
  have hl : lv_has ls 5 [(0, .ref (a_v 0)), (1, .int p1), (2, .int p2), (3, .int p3)] := hl
  unfold fX5_lay at hf
  refine lv_iload_n C.1 C.2.1 (dk_at dkX5_lay 0 rfl) rfl (lv_at hl 1 rfl) ?_
  refine lv_if_lt (tgt := 9) C.1 C.2.1 (dk_at dkX5_lay 1 rfl) (by decide) (fun c1 => ?_) (fun c1 => ?_)
  · have hf := (if_pos c1).symm.trans hf
    refine lv_iconst (v := (-1)) C.1 C.2.1 (dk_at dkX5_lay 5 rfl) (by decide) ?_
    cases hf
    exact fin _ _ _ _ _ (dk_at dkX5_lay 6 rfl) rfl w
  · have hf := (if_neg c1).symm.trans hf
    refine lv_iload_n C.1 C.2.1 (dk_at dkX5_lay 2 rfl) rfl (lv_at hl 1 rfl) ?_
    refine lv_iconst (v := 4) C.1 C.2.1 (dk_at dkX5_lay 3 rfl) (by decide) ?_
    refine lv_icmp_lt (tgt := 11) C.1 C.2.1 (dk_at dkX5_lay 4 rfl) (by decide) (fun c2 => ?_) (fun c2 => ?_)
    · have hf := (if_pos c2).symm.trans hf
      refine lv_aload_n C.1 C.2.1 (dk_at dkX5_lay 7 rfl) rfl (lv_at hl 0 rfl) ?_
      refine r_get (v := .ref (a_v 4)) C hK w.1 (fun w h => List.mem_cons_of_mem _ (inlX5 w h)) 0 rfl rfl 7 (by decide) (List.mem_cons_of_mem _ (inr2 _ (List.mem_of_getElem? (i := 7) rfl))) rfl (dk_at dkX5_lay 8 rfl) ?_
      refine lv_iload_n C.1 C.2.1 (dk_at dkX5_lay 9 rfl) rfl (lv_at hl 1 rfl) ?_
      obtain ⟨h3, hf⟩ := gd_at hf
      rcases lt4 (in_lt h3) with hs | hs | hs | hs
      · have hf : _ := (if_pos hs).symm.trans hf
        refine r_alds (b := a_s0 0) C hK w.1 4 rfl h3 (by rw [hs]; rfl) (dk_at dkX5_lay 10 rfl) ?_
        refine lv_aload_n C.1 C.2.1 (dk_at dkX5_lay 11 rfl) rfl (lv_at hl 0 rfl) ?_
        refine r_get (v := .ref (a_v 4)) C hK w.1 (fun w h => List.mem_cons_of_mem _ (inlX5 w h)) 0 rfl rfl 7 (by decide) (List.mem_cons_of_mem _ (inr2 _ (List.mem_of_getElem? (i := 7) rfl))) rfl (dk_at dkX5_lay 12 rfl) ?_
        refine lv_iload_n C.1 C.2.1 (dk_at dkX5_lay 13 rfl) rfl (lv_at hl 1 rfl) ?_
        obtain ⟨h4, hf⟩ := gd_at hf
        rcases lt4 (in_lt h4) with hs | hs | hs | hs
        · have hf : _ := (if_pos hs).symm.trans hf
          refine r_alds (b := a_s0 0) C hK w.1 4 rfl h4 (by rw [hs]; rfl) (dk_at dkX5_lay 14 rfl) ?_
          refine r_get (v := .int (sLa s0)) C hK w.1 (fun w h => List.mem_cons_of_mem _ (inlX4 w h)) 5 rfl rfl 1 (by decide) (List.mem_cons_of_mem _ (inr40 _ (List.mem_of_getElem? (i := 8) rfl))) rfl (dk_at dkX5_lay 15 rfl) ?_
          refine lv_iload_n C.1 C.2.1 (dk_at dkX5_lay 16 rfl) rfl (lv_at hl 2 rfl) ?_
          obtain ⟨r5, hq6, hf⟩ := bd1_at hf
          refine r_roV (As := [.int (sLa s0), .int p2]) (rest := []) C (kX4_flawAt l g a_s0 s0 (sLa s0) p2 r5 hq6) (cwV0 C (inr40 _ (List.mem_of_getElem? (i := 9) rfl)) mwX4_flawAt hdX4_flawAt ⟨Nat.le_of_ble_eq_true rfl, Nat.le_of_ble_eq_true rfl⟩) hK (w.1.sub [5, 6] rfl) rfl rfl rfl hl.1 rfl (Nat.le_of_ble_eq_true rfl) ⟨Nat.zero_le _, Nat.zero_le _⟩ (dk_at dkX5_lay 17 rfl) ?_
          refine lv_istore (lv' := [(4, .int r5), (0, .ref (a_v 0)), (1, .int p1), (2, .int p2), (3, .int p3)]) C.1 C.2.1 (dk_at dkX5_lay 18 rfl) hl (by decide) rfl (fun ls hl => ?_)
          refine lv_iload C.1 C.2.1 (dk_at dkX5_lay 19 rfl) (lv_at hl 0 rfl) ?_
          refine lv_if_eq (tgt := 43) C.1 C.2.1 (dk_at dkX5_lay 20 rfl) (by decide) (fun c7 => ?_) (fun c7 => ?_)
          · have hf := (if_pos c7).symm.trans hf
            refine lv_aload_n C.1 C.2.1 (dk_at dkX5_lay 25 rfl) rfl (lv_at hl 1 rfl) ?_
            refine r_get (v := .ref (a_v 4)) C hK w.1 (fun w h => List.mem_cons_of_mem _ (inlX5 w h)) 0 rfl rfl 7 (by decide) (List.mem_cons_of_mem _ (inr2 _ (List.mem_of_getElem? (i := 7) rfl))) rfl (dk_at dkX5_lay 26 rfl) ?_
            refine lv_iload_n C.1 C.2.1 (dk_at dkX5_lay 27 rfl) rfl (lv_at hl 2 rfl) ?_
            obtain ⟨h8, hf⟩ := gd_at hf
            rcases lt4 (in_lt h8) with hs | hs | hs | hs
            · have hf : _ := (if_pos hs).symm.trans hf
              refine r_alds (b := a_s0 0) C hK w.1 4 rfl h8 (by rw [hs]; rfl) (dk_at dkX5_lay 28 rfl) ?_
              refine lv_iload_n C.1 C.2.1 (dk_at dkX5_lay 29 rfl) rfl (lv_at hl 3 rfl) ?_
              refine lv_iload_n C.1 C.2.1 (dk_at dkX5_lay 30 rfl) rfl (lv_at hl 4 rfl) ?_
              obtain ⟨s0_9, hq10, hf⟩ := bd1_at hf
              refine r_rwv (As := [.int p2, .int p3]) (rest := []) (wr := wV g a_v a_rd a_nw a_tr a_da a_i0 a_i1 a_s0 a_s1 a_s2 a_s3 v ++ wS g a_s1 s1 ++ wS g a_s2 s2 ++ wS g a_s3 s3) (ws' := wV g a_v a_rd a_nw a_tr a_da a_i0 a_i1 a_s0 a_s1 a_s2 a_s3 v ++ wS g a_s0 s0_9 ++ wS g a_s1 s1 ++ wS g a_s2 s2 ++ wS g a_s3 s3) C (kX4_put l g _ a_s0 s0 p2 p3 s0_9 hq10) (cwV0 C (inr40 _ (List.mem_of_getElem? (i := 13) rfl)) mwX4_put hdX4_put ⟨Nat.le_of_ble_eq_true rfl, Nat.le_of_ble_eq_true rfl⟩) hK w hA [5, 6] [0, 1, 2, 3, 4, 7, 8, 9, 10, 11, 12] [0, 1, 2, 3, 4, 11, 12, 5, 6, 7, 8, 9, 10] (by decide) rfl rfl (by decide) (by decide) rfl (by decide) rfl rfl rfl hl.1 rfl (Nat.le_of_ble_eq_true rfl) ⟨Nat.zero_le _, Nat.zero_le _⟩ (dk_at dkX5_lay 31 rfl) (fun H locs w => ?_)
              refine lv_iconst (v := 1) C.1 C.2.1 (dk_at dkX5_lay 32 rfl) (by decide) ?_
              cases hf
              exact fin _ _ _ _ _ (dk_at dkX5_lay 33 rfl) rfl w
            · have hf : _ := ((if_neg (by rw [hs]; decide)).trans (if_pos hs)).symm.trans hf
              refine r_alds (b := a_s1 0) C hK w.1 4 rfl h8 (by rw [hs]; rfl) (dk_at dkX5_lay 28 rfl) ?_
              refine lv_iload_n C.1 C.2.1 (dk_at dkX5_lay 29 rfl) rfl (lv_at hl 3 rfl) ?_
              refine lv_iload_n C.1 C.2.1 (dk_at dkX5_lay 30 rfl) rfl (lv_at hl 4 rfl) ?_
              obtain ⟨s1_11, hq12, hf⟩ := bd1_at hf
              refine r_rwv (As := [.int p2, .int p3]) (rest := []) (wr := wV g a_v a_rd a_nw a_tr a_da a_i0 a_i1 a_s0 a_s1 a_s2 a_s3 v ++ wS g a_s0 s0 ++ wS g a_s2 s2 ++ wS g a_s3 s3) (ws' := wV g a_v a_rd a_nw a_tr a_da a_i0 a_i1 a_s0 a_s1 a_s2 a_s3 v ++ wS g a_s0 s0 ++ wS g a_s1 s1_11 ++ wS g a_s2 s2 ++ wS g a_s3 s3) C (kX4_put l g _ a_s1 s1 p2 p3 s1_11 hq12) (cwV0 C (inr40 _ (List.mem_of_getElem? (i := 13) rfl)) mwX4_put hdX4_put ⟨Nat.le_of_ble_eq_true rfl, Nat.le_of_ble_eq_true rfl⟩) hK w hA [7, 8] [0, 1, 2, 3, 4, 5, 6, 9, 10, 11, 12] [0, 1, 2, 3, 4, 5, 6, 11, 12, 7, 8, 9, 10] (by decide) rfl rfl (by decide) (by decide) rfl (by decide) rfl rfl rfl hl.1 rfl (Nat.le_of_ble_eq_true rfl) ⟨Nat.zero_le _, Nat.zero_le _⟩ (dk_at dkX5_lay 31 rfl) (fun H locs w => ?_)
              refine lv_iconst (v := 1) C.1 C.2.1 (dk_at dkX5_lay 32 rfl) (by decide) ?_
              cases hf
              exact fin _ _ _ _ _ (dk_at dkX5_lay 33 rfl) rfl w
            · have hf : _ := (((if_neg (by rw [hs]; decide)).trans (if_neg (by rw [hs]; decide))).trans (if_pos hs)).symm.trans hf
              refine r_alds (b := a_s2 0) C hK w.1 4 rfl h8 (by rw [hs]; rfl) (dk_at dkX5_lay 28 rfl) ?_
              refine lv_iload_n C.1 C.2.1 (dk_at dkX5_lay 29 rfl) rfl (lv_at hl 3 rfl) ?_
              refine lv_iload_n C.1 C.2.1 (dk_at dkX5_lay 30 rfl) rfl (lv_at hl 4 rfl) ?_
              obtain ⟨s2_13, hq14, hf⟩ := bd1_at hf
              refine r_rwv (As := [.int p2, .int p3]) (rest := []) (wr := wV g a_v a_rd a_nw a_tr a_da a_i0 a_i1 a_s0 a_s1 a_s2 a_s3 v ++ wS g a_s0 s0 ++ wS g a_s1 s1 ++ wS g a_s3 s3) (ws' := wV g a_v a_rd a_nw a_tr a_da a_i0 a_i1 a_s0 a_s1 a_s2 a_s3 v ++ wS g a_s0 s0 ++ wS g a_s1 s1 ++ wS g a_s2 s2_13 ++ wS g a_s3 s3) C (kX4_put l g _ a_s2 s2 p2 p3 s2_13 hq14) (cwV0 C (inr40 _ (List.mem_of_getElem? (i := 13) rfl)) mwX4_put hdX4_put ⟨Nat.le_of_ble_eq_true rfl, Nat.le_of_ble_eq_true rfl⟩) hK w hA [9, 10] [0, 1, 2, 3, 4, 5, 6, 7, 8, 11, 12] [0, 1, 2, 3, 4, 5, 6, 7, 8, 11, 12, 9, 10] (by decide) rfl rfl (by decide) (by decide) rfl (by decide) rfl rfl rfl hl.1 rfl (Nat.le_of_ble_eq_true rfl) ⟨Nat.zero_le _, Nat.zero_le _⟩ (dk_at dkX5_lay 31 rfl) (fun H locs w => ?_)
              refine lv_iconst (v := 1) C.1 C.2.1 (dk_at dkX5_lay 32 rfl) (by decide) ?_
              cases hf
              exact fin _ _ _ _ _ (dk_at dkX5_lay 33 rfl) rfl w
            · have hf : _ := (((if_neg (by rw [hs]; decide)).trans (if_neg (by rw [hs]; decide))).trans (if_neg (by rw [hs]; decide))).symm.trans hf
              refine r_alds (b := a_s3 0) C hK w.1 4 rfl h8 (by rw [hs]; rfl) (dk_at dkX5_lay 28 rfl) ?_
              refine lv_iload_n C.1 C.2.1 (dk_at dkX5_lay 29 rfl) rfl (lv_at hl 3 rfl) ?_
              refine lv_iload_n C.1 C.2.1 (dk_at dkX5_lay 30 rfl) rfl (lv_at hl 4 rfl) ?_
              obtain ⟨s3_15, hq16, hf⟩ := bd1_at hf
              refine r_rwv (As := [.int p2, .int p3]) (rest := []) (wr := wV g a_v a_rd a_nw a_tr a_da a_i0 a_i1 a_s0 a_s1 a_s2 a_s3 v ++ wS g a_s0 s0 ++ wS g a_s1 s1 ++ wS g a_s2 s2) (ws' := wV g a_v a_rd a_nw a_tr a_da a_i0 a_i1 a_s0 a_s1 a_s2 a_s3 v ++ wS g a_s0 s0 ++ wS g a_s1 s1 ++ wS g a_s2 s2 ++ wS g a_s3 s3_15) C (kX4_put l g _ a_s3 s3 p2 p3 s3_15 hq16) (cwV0 C (inr40 _ (List.mem_of_getElem? (i := 13) rfl)) mwX4_put hdX4_put ⟨Nat.le_of_ble_eq_true rfl, Nat.le_of_ble_eq_true rfl⟩) hK w hA [11, 12] [0, 1, 2, 3, 4, 5, 6, 7, 8, 9, 10] [0, 1, 2, 3, 4, 5, 6, 7, 8, 9, 10, 11, 12] (by decide) rfl rfl (by decide) (by decide) rfl (by decide) rfl rfl rfl hl.1 rfl (Nat.le_of_ble_eq_true rfl) ⟨Nat.zero_le _, Nat.zero_le _⟩ (dk_at dkX5_lay 31 rfl) (fun H locs w => ?_)
              refine lv_iconst (v := 1) C.1 C.2.1 (dk_at dkX5_lay 32 rfl) (by decide) ?_
              cases hf
              exact fin _ _ _ _ _ (dk_at dkX5_lay 33 rfl) rfl w
          · have hf := (if_neg c7).symm.trans hf
            refine lv_bipush (v := (-10)) C.1 C.2.1 (dk_at dkX5_lay 21 rfl) (by decide) ?_
            refine lv_iload C.1 C.2.1 (dk_at dkX5_lay 22 rfl) (lv_at hl 0 rfl) ?_
            refine lv_isub C.1 C.2.1 (dk_at dkX5_lay 23 rfl) ?_
            refine lv_topi (fun x17 ex17 => ?_)
            have hf := nm_at ex17 hf
            cases hf
            exact fin _ _ _ _ _ (dk_at dkX5_lay 24 rfl) rfl w
        · have hf : _ := ((if_neg (by rw [hs]; decide)).trans (if_pos hs)).symm.trans hf
          refine r_alds (b := a_s1 0) C hK w.1 4 rfl h4 (by rw [hs]; rfl) (dk_at dkX5_lay 14 rfl) ?_
          refine r_get (v := .int (sLa s1)) C hK w.1 (fun w h => List.mem_cons_of_mem _ (inlX4 w h)) 7 rfl rfl 1 (by decide) (List.mem_cons_of_mem _ (inr40 _ (List.mem_of_getElem? (i := 8) rfl))) rfl (dk_at dkX5_lay 15 rfl) ?_
          refine lv_iload_n C.1 C.2.1 (dk_at dkX5_lay 16 rfl) rfl (lv_at hl 2 rfl) ?_
          obtain ⟨r18, hq19, hf⟩ := bd1_at hf
          refine r_roV (As := [.int (sLa s1), .int p2]) (rest := []) C (kX4_flawAt l g a_s0 s0 (sLa s1) p2 r18 hq19) (cwV0 C (inr40 _ (List.mem_of_getElem? (i := 9) rfl)) mwX4_flawAt hdX4_flawAt ⟨Nat.le_of_ble_eq_true rfl, Nat.le_of_ble_eq_true rfl⟩) hK (w.1.sub [5, 6] rfl) rfl rfl rfl hl.1 rfl (Nat.le_of_ble_eq_true rfl) ⟨Nat.zero_le _, Nat.zero_le _⟩ (dk_at dkX5_lay 17 rfl) ?_
          refine lv_istore (lv' := [(4, .int r18), (0, .ref (a_v 0)), (1, .int p1), (2, .int p2), (3, .int p3)]) C.1 C.2.1 (dk_at dkX5_lay 18 rfl) hl (by decide) rfl (fun ls hl => ?_)
          refine lv_iload C.1 C.2.1 (dk_at dkX5_lay 19 rfl) (lv_at hl 0 rfl) ?_
          refine lv_if_eq (tgt := 43) C.1 C.2.1 (dk_at dkX5_lay 20 rfl) (by decide) (fun c20 => ?_) (fun c20 => ?_)
          · have hf := (if_pos c20).symm.trans hf
            refine lv_aload_n C.1 C.2.1 (dk_at dkX5_lay 25 rfl) rfl (lv_at hl 1 rfl) ?_
            refine r_get (v := .ref (a_v 4)) C hK w.1 (fun w h => List.mem_cons_of_mem _ (inlX5 w h)) 0 rfl rfl 7 (by decide) (List.mem_cons_of_mem _ (inr2 _ (List.mem_of_getElem? (i := 7) rfl))) rfl (dk_at dkX5_lay 26 rfl) ?_
            refine lv_iload_n C.1 C.2.1 (dk_at dkX5_lay 27 rfl) rfl (lv_at hl 2 rfl) ?_
            obtain ⟨h21, hf⟩ := gd_at hf
            rcases lt4 (in_lt h21) with hs | hs | hs | hs
            · have hf : _ := (if_pos hs).symm.trans hf
              refine r_alds (b := a_s0 0) C hK w.1 4 rfl h21 (by rw [hs]; rfl) (dk_at dkX5_lay 28 rfl) ?_
              refine lv_iload_n C.1 C.2.1 (dk_at dkX5_lay 29 rfl) rfl (lv_at hl 3 rfl) ?_
              refine lv_iload_n C.1 C.2.1 (dk_at dkX5_lay 30 rfl) rfl (lv_at hl 4 rfl) ?_
              obtain ⟨s0_22, hq23, hf⟩ := bd1_at hf
              refine r_rwv (As := [.int p2, .int p3]) (rest := []) (wr := wV g a_v a_rd a_nw a_tr a_da a_i0 a_i1 a_s0 a_s1 a_s2 a_s3 v ++ wS g a_s1 s1 ++ wS g a_s2 s2 ++ wS g a_s3 s3) (ws' := wV g a_v a_rd a_nw a_tr a_da a_i0 a_i1 a_s0 a_s1 a_s2 a_s3 v ++ wS g a_s0 s0_22 ++ wS g a_s1 s1 ++ wS g a_s2 s2 ++ wS g a_s3 s3) C (kX4_put l g _ a_s0 s0 p2 p3 s0_22 hq23) (cwV0 C (inr40 _ (List.mem_of_getElem? (i := 13) rfl)) mwX4_put hdX4_put ⟨Nat.le_of_ble_eq_true rfl, Nat.le_of_ble_eq_true rfl⟩) hK w hA [5, 6] [0, 1, 2, 3, 4, 7, 8, 9, 10, 11, 12] [0, 1, 2, 3, 4, 11, 12, 5, 6, 7, 8, 9, 10] (by decide) rfl rfl (by decide) (by decide) rfl (by decide) rfl rfl rfl hl.1 rfl (Nat.le_of_ble_eq_true rfl) ⟨Nat.zero_le _, Nat.zero_le _⟩ (dk_at dkX5_lay 31 rfl) (fun H locs w => ?_)
              refine lv_iconst (v := 1) C.1 C.2.1 (dk_at dkX5_lay 32 rfl) (by decide) ?_
              cases hf
              exact fin _ _ _ _ _ (dk_at dkX5_lay 33 rfl) rfl w
            · have hf : _ := ((if_neg (by rw [hs]; decide)).trans (if_pos hs)).symm.trans hf
              refine r_alds (b := a_s1 0) C hK w.1 4 rfl h21 (by rw [hs]; rfl) (dk_at dkX5_lay 28 rfl) ?_
              refine lv_iload_n C.1 C.2.1 (dk_at dkX5_lay 29 rfl) rfl (lv_at hl 3 rfl) ?_
              refine lv_iload_n C.1 C.2.1 (dk_at dkX5_lay 30 rfl) rfl (lv_at hl 4 rfl) ?_
              obtain ⟨s1_24, hq25, hf⟩ := bd1_at hf
              refine r_rwv (As := [.int p2, .int p3]) (rest := []) (wr := wV g a_v a_rd a_nw a_tr a_da a_i0 a_i1 a_s0 a_s1 a_s2 a_s3 v ++ wS g a_s0 s0 ++ wS g a_s2 s2 ++ wS g a_s3 s3) (ws' := wV g a_v a_rd a_nw a_tr a_da a_i0 a_i1 a_s0 a_s1 a_s2 a_s3 v ++ wS g a_s0 s0 ++ wS g a_s1 s1_24 ++ wS g a_s2 s2 ++ wS g a_s3 s3) C (kX4_put l g _ a_s1 s1 p2 p3 s1_24 hq25) (cwV0 C (inr40 _ (List.mem_of_getElem? (i := 13) rfl)) mwX4_put hdX4_put ⟨Nat.le_of_ble_eq_true rfl, Nat.le_of_ble_eq_true rfl⟩) hK w hA [7, 8] [0, 1, 2, 3, 4, 5, 6, 9, 10, 11, 12] [0, 1, 2, 3, 4, 5, 6, 11, 12, 7, 8, 9, 10] (by decide) rfl rfl (by decide) (by decide) rfl (by decide) rfl rfl rfl hl.1 rfl (Nat.le_of_ble_eq_true rfl) ⟨Nat.zero_le _, Nat.zero_le _⟩ (dk_at dkX5_lay 31 rfl) (fun H locs w => ?_)
              refine lv_iconst (v := 1) C.1 C.2.1 (dk_at dkX5_lay 32 rfl) (by decide) ?_
              cases hf
              exact fin _ _ _ _ _ (dk_at dkX5_lay 33 rfl) rfl w
            · have hf : _ := (((if_neg (by rw [hs]; decide)).trans (if_neg (by rw [hs]; decide))).trans (if_pos hs)).symm.trans hf
              refine r_alds (b := a_s2 0) C hK w.1 4 rfl h21 (by rw [hs]; rfl) (dk_at dkX5_lay 28 rfl) ?_
              refine lv_iload_n C.1 C.2.1 (dk_at dkX5_lay 29 rfl) rfl (lv_at hl 3 rfl) ?_
              refine lv_iload_n C.1 C.2.1 (dk_at dkX5_lay 30 rfl) rfl (lv_at hl 4 rfl) ?_
              obtain ⟨s2_26, hq27, hf⟩ := bd1_at hf
              refine r_rwv (As := [.int p2, .int p3]) (rest := []) (wr := wV g a_v a_rd a_nw a_tr a_da a_i0 a_i1 a_s0 a_s1 a_s2 a_s3 v ++ wS g a_s0 s0 ++ wS g a_s1 s1 ++ wS g a_s3 s3) (ws' := wV g a_v a_rd a_nw a_tr a_da a_i0 a_i1 a_s0 a_s1 a_s2 a_s3 v ++ wS g a_s0 s0 ++ wS g a_s1 s1 ++ wS g a_s2 s2_26 ++ wS g a_s3 s3) C (kX4_put l g _ a_s2 s2 p2 p3 s2_26 hq27) (cwV0 C (inr40 _ (List.mem_of_getElem? (i := 13) rfl)) mwX4_put hdX4_put ⟨Nat.le_of_ble_eq_true rfl, Nat.le_of_ble_eq_true rfl⟩) hK w hA [9, 10] [0, 1, 2, 3, 4, 5, 6, 7, 8, 11, 12] [0, 1, 2, 3, 4, 5, 6, 7, 8, 11, 12, 9, 10] (by decide) rfl rfl (by decide) (by decide) rfl (by decide) rfl rfl rfl hl.1 rfl (Nat.le_of_ble_eq_true rfl) ⟨Nat.zero_le _, Nat.zero_le _⟩ (dk_at dkX5_lay 31 rfl) (fun H locs w => ?_)
              refine lv_iconst (v := 1) C.1 C.2.1 (dk_at dkX5_lay 32 rfl) (by decide) ?_
              cases hf
              exact fin _ _ _ _ _ (dk_at dkX5_lay 33 rfl) rfl w
            · have hf : _ := (((if_neg (by rw [hs]; decide)).trans (if_neg (by rw [hs]; decide))).trans (if_neg (by rw [hs]; decide))).symm.trans hf
              refine r_alds (b := a_s3 0) C hK w.1 4 rfl h21 (by rw [hs]; rfl) (dk_at dkX5_lay 28 rfl) ?_
              refine lv_iload_n C.1 C.2.1 (dk_at dkX5_lay 29 rfl) rfl (lv_at hl 3 rfl) ?_
              refine lv_iload_n C.1 C.2.1 (dk_at dkX5_lay 30 rfl) rfl (lv_at hl 4 rfl) ?_
              obtain ⟨s3_28, hq29, hf⟩ := bd1_at hf
              refine r_rwv (As := [.int p2, .int p3]) (rest := []) (wr := wV g a_v a_rd a_nw a_tr a_da a_i0 a_i1 a_s0 a_s1 a_s2 a_s3 v ++ wS g a_s0 s0 ++ wS g a_s1 s1 ++ wS g a_s2 s2) (ws' := wV g a_v a_rd a_nw a_tr a_da a_i0 a_i1 a_s0 a_s1 a_s2 a_s3 v ++ wS g a_s0 s0 ++ wS g a_s1 s1 ++ wS g a_s2 s2 ++ wS g a_s3 s3_28) C (kX4_put l g _ a_s3 s3 p2 p3 s3_28 hq29) (cwV0 C (inr40 _ (List.mem_of_getElem? (i := 13) rfl)) mwX4_put hdX4_put ⟨Nat.le_of_ble_eq_true rfl, Nat.le_of_ble_eq_true rfl⟩) hK w hA [11, 12] [0, 1, 2, 3, 4, 5, 6, 7, 8, 9, 10] [0, 1, 2, 3, 4, 5, 6, 7, 8, 9, 10, 11, 12] (by decide) rfl rfl (by decide) (by decide) rfl (by decide) rfl rfl rfl hl.1 rfl (Nat.le_of_ble_eq_true rfl) ⟨Nat.zero_le _, Nat.zero_le _⟩ (dk_at dkX5_lay 31 rfl) (fun H locs w => ?_)
              refine lv_iconst (v := 1) C.1 C.2.1 (dk_at dkX5_lay 32 rfl) (by decide) ?_
              cases hf
              exact fin _ _ _ _ _ (dk_at dkX5_lay 33 rfl) rfl w
          · have hf := (if_neg c20).symm.trans hf
            refine lv_bipush (v := (-10)) C.1 C.2.1 (dk_at dkX5_lay 21 rfl) (by decide) ?_
            refine lv_iload C.1 C.2.1 (dk_at dkX5_lay 22 rfl) (lv_at hl 0 rfl) ?_
            refine lv_isub C.1 C.2.1 (dk_at dkX5_lay 23 rfl) ?_
            refine lv_topi (fun x30 ex30 => ?_)
            have hf := nm_at ex30 hf
            cases hf
            exact fin _ _ _ _ _ (dk_at dkX5_lay 24 rfl) rfl w
        · have hf : _ := (((if_neg (by rw [hs]; decide)).trans (if_neg (by rw [hs]; decide))).trans (if_pos hs)).symm.trans hf
          refine r_alds (b := a_s2 0) C hK w.1 4 rfl h4 (by rw [hs]; rfl) (dk_at dkX5_lay 14 rfl) ?_
          refine r_get (v := .int (sLa s2)) C hK w.1 (fun w h => List.mem_cons_of_mem _ (inlX4 w h)) 9 rfl rfl 1 (by decide) (List.mem_cons_of_mem _ (inr40 _ (List.mem_of_getElem? (i := 8) rfl))) rfl (dk_at dkX5_lay 15 rfl) ?_
          refine lv_iload_n C.1 C.2.1 (dk_at dkX5_lay 16 rfl) rfl (lv_at hl 2 rfl) ?_
          obtain ⟨r31, hq32, hf⟩ := bd1_at hf
          refine r_roV (As := [.int (sLa s2), .int p2]) (rest := []) C (kX4_flawAt l g a_s0 s0 (sLa s2) p2 r31 hq32) (cwV0 C (inr40 _ (List.mem_of_getElem? (i := 9) rfl)) mwX4_flawAt hdX4_flawAt ⟨Nat.le_of_ble_eq_true rfl, Nat.le_of_ble_eq_true rfl⟩) hK (w.1.sub [5, 6] rfl) rfl rfl rfl hl.1 rfl (Nat.le_of_ble_eq_true rfl) ⟨Nat.zero_le _, Nat.zero_le _⟩ (dk_at dkX5_lay 17 rfl) ?_
          refine lv_istore (lv' := [(4, .int r31), (0, .ref (a_v 0)), (1, .int p1), (2, .int p2), (3, .int p3)]) C.1 C.2.1 (dk_at dkX5_lay 18 rfl) hl (by decide) rfl (fun ls hl => ?_)
          refine lv_iload C.1 C.2.1 (dk_at dkX5_lay 19 rfl) (lv_at hl 0 rfl) ?_
          refine lv_if_eq (tgt := 43) C.1 C.2.1 (dk_at dkX5_lay 20 rfl) (by decide) (fun c33 => ?_) (fun c33 => ?_)
          · have hf := (if_pos c33).symm.trans hf
            refine lv_aload_n C.1 C.2.1 (dk_at dkX5_lay 25 rfl) rfl (lv_at hl 1 rfl) ?_
            refine r_get (v := .ref (a_v 4)) C hK w.1 (fun w h => List.mem_cons_of_mem _ (inlX5 w h)) 0 rfl rfl 7 (by decide) (List.mem_cons_of_mem _ (inr2 _ (List.mem_of_getElem? (i := 7) rfl))) rfl (dk_at dkX5_lay 26 rfl) ?_
            refine lv_iload_n C.1 C.2.1 (dk_at dkX5_lay 27 rfl) rfl (lv_at hl 2 rfl) ?_
            obtain ⟨h34, hf⟩ := gd_at hf
            rcases lt4 (in_lt h34) with hs | hs | hs | hs
            · have hf : _ := (if_pos hs).symm.trans hf
              refine r_alds (b := a_s0 0) C hK w.1 4 rfl h34 (by rw [hs]; rfl) (dk_at dkX5_lay 28 rfl) ?_
              refine lv_iload_n C.1 C.2.1 (dk_at dkX5_lay 29 rfl) rfl (lv_at hl 3 rfl) ?_
              refine lv_iload_n C.1 C.2.1 (dk_at dkX5_lay 30 rfl) rfl (lv_at hl 4 rfl) ?_
              obtain ⟨s0_35, hq36, hf⟩ := bd1_at hf
              refine r_rwv (As := [.int p2, .int p3]) (rest := []) (wr := wV g a_v a_rd a_nw a_tr a_da a_i0 a_i1 a_s0 a_s1 a_s2 a_s3 v ++ wS g a_s1 s1 ++ wS g a_s2 s2 ++ wS g a_s3 s3) (ws' := wV g a_v a_rd a_nw a_tr a_da a_i0 a_i1 a_s0 a_s1 a_s2 a_s3 v ++ wS g a_s0 s0_35 ++ wS g a_s1 s1 ++ wS g a_s2 s2 ++ wS g a_s3 s3) C (kX4_put l g _ a_s0 s0 p2 p3 s0_35 hq36) (cwV0 C (inr40 _ (List.mem_of_getElem? (i := 13) rfl)) mwX4_put hdX4_put ⟨Nat.le_of_ble_eq_true rfl, Nat.le_of_ble_eq_true rfl⟩) hK w hA [5, 6] [0, 1, 2, 3, 4, 7, 8, 9, 10, 11, 12] [0, 1, 2, 3, 4, 11, 12, 5, 6, 7, 8, 9, 10] (by decide) rfl rfl (by decide) (by decide) rfl (by decide) rfl rfl rfl hl.1 rfl (Nat.le_of_ble_eq_true rfl) ⟨Nat.zero_le _, Nat.zero_le _⟩ (dk_at dkX5_lay 31 rfl) (fun H locs w => ?_)
              refine lv_iconst (v := 1) C.1 C.2.1 (dk_at dkX5_lay 32 rfl) (by decide) ?_
              cases hf
              exact fin _ _ _ _ _ (dk_at dkX5_lay 33 rfl) rfl w
            · have hf : _ := ((if_neg (by rw [hs]; decide)).trans (if_pos hs)).symm.trans hf
              refine r_alds (b := a_s1 0) C hK w.1 4 rfl h34 (by rw [hs]; rfl) (dk_at dkX5_lay 28 rfl) ?_
              refine lv_iload_n C.1 C.2.1 (dk_at dkX5_lay 29 rfl) rfl (lv_at hl 3 rfl) ?_
              refine lv_iload_n C.1 C.2.1 (dk_at dkX5_lay 30 rfl) rfl (lv_at hl 4 rfl) ?_
              obtain ⟨s1_37, hq38, hf⟩ := bd1_at hf
              refine r_rwv (As := [.int p2, .int p3]) (rest := []) (wr := wV g a_v a_rd a_nw a_tr a_da a_i0 a_i1 a_s0 a_s1 a_s2 a_s3 v ++ wS g a_s0 s0 ++ wS g a_s2 s2 ++ wS g a_s3 s3) (ws' := wV g a_v a_rd a_nw a_tr a_da a_i0 a_i1 a_s0 a_s1 a_s2 a_s3 v ++ wS g a_s0 s0 ++ wS g a_s1 s1_37 ++ wS g a_s2 s2 ++ wS g a_s3 s3) C (kX4_put l g _ a_s1 s1 p2 p3 s1_37 hq38) (cwV0 C (inr40 _ (List.mem_of_getElem? (i := 13) rfl)) mwX4_put hdX4_put ⟨Nat.le_of_ble_eq_true rfl, Nat.le_of_ble_eq_true rfl⟩) hK w hA [7, 8] [0, 1, 2, 3, 4, 5, 6, 9, 10, 11, 12] [0, 1, 2, 3, 4, 5, 6, 11, 12, 7, 8, 9, 10] (by decide) rfl rfl (by decide) (by decide) rfl (by decide) rfl rfl rfl hl.1 rfl (Nat.le_of_ble_eq_true rfl) ⟨Nat.zero_le _, Nat.zero_le _⟩ (dk_at dkX5_lay 31 rfl) (fun H locs w => ?_)
              refine lv_iconst (v := 1) C.1 C.2.1 (dk_at dkX5_lay 32 rfl) (by decide) ?_
              cases hf
              exact fin _ _ _ _ _ (dk_at dkX5_lay 33 rfl) rfl w
            · have hf : _ := (((if_neg (by rw [hs]; decide)).trans (if_neg (by rw [hs]; decide))).trans (if_pos hs)).symm.trans hf
              refine r_alds (b := a_s2 0) C hK w.1 4 rfl h34 (by rw [hs]; rfl) (dk_at dkX5_lay 28 rfl) ?_
              refine lv_iload_n C.1 C.2.1 (dk_at dkX5_lay 29 rfl) rfl (lv_at hl 3 rfl) ?_
              refine lv_iload_n C.1 C.2.1 (dk_at dkX5_lay 30 rfl) rfl (lv_at hl 4 rfl) ?_
              obtain ⟨s2_39, hq40, hf⟩ := bd1_at hf
              refine r_rwv (As := [.int p2, .int p3]) (rest := []) (wr := wV g a_v a_rd a_nw a_tr a_da a_i0 a_i1 a_s0 a_s1 a_s2 a_s3 v ++ wS g a_s0 s0 ++ wS g a_s1 s1 ++ wS g a_s3 s3) (ws' := wV g a_v a_rd a_nw a_tr a_da a_i0 a_i1 a_s0 a_s1 a_s2 a_s3 v ++ wS g a_s0 s0 ++ wS g a_s1 s1 ++ wS g a_s2 s2_39 ++ wS g a_s3 s3) C (kX4_put l g _ a_s2 s2 p2 p3 s2_39 hq40) (cwV0 C (inr40 _ (List.mem_of_getElem? (i := 13) rfl)) mwX4_put hdX4_put ⟨Nat.le_of_ble_eq_true rfl, Nat.le_of_ble_eq_true rfl⟩) hK w hA [9, 10] [0, 1, 2, 3, 4, 5, 6, 7, 8, 11, 12] [0, 1, 2, 3, 4, 5, 6, 7, 8, 11, 12, 9, 10] (by decide) rfl rfl (by decide) (by decide) rfl (by decide) rfl rfl rfl hl.1 rfl (Nat.le_of_ble_eq_true rfl) ⟨Nat.zero_le _, Nat.zero_le _⟩ (dk_at dkX5_lay 31 rfl) (fun H locs w => ?_)
              refine lv_iconst (v := 1) C.1 C.2.1 (dk_at dkX5_lay 32 rfl) (by decide) ?_
              cases hf
              exact fin _ _ _ _ _ (dk_at dkX5_lay 33 rfl) rfl w
            · have hf : _ := (((if_neg (by rw [hs]; decide)).trans (if_neg (by rw [hs]; decide))).trans (if_neg (by rw [hs]; decide))).symm.trans hf
              refine r_alds (b := a_s3 0) C hK w.1 4 rfl h34 (by rw [hs]; rfl) (dk_at dkX5_lay 28 rfl) ?_
              refine lv_iload_n C.1 C.2.1 (dk_at dkX5_lay 29 rfl) rfl (lv_at hl 3 rfl) ?_
              refine lv_iload_n C.1 C.2.1 (dk_at dkX5_lay 30 rfl) rfl (lv_at hl 4 rfl) ?_
              obtain ⟨s3_41, hq42, hf⟩ := bd1_at hf
              refine r_rwv (As := [.int p2, .int p3]) (rest := []) (wr := wV g a_v a_rd a_nw a_tr a_da a_i0 a_i1 a_s0 a_s1 a_s2 a_s3 v ++ wS g a_s0 s0 ++ wS g a_s1 s1 ++ wS g a_s2 s2) (ws' := wV g a_v a_rd a_nw a_tr a_da a_i0 a_i1 a_s0 a_s1 a_s2 a_s3 v ++ wS g a_s0 s0 ++ wS g a_s1 s1 ++ wS g a_s2 s2 ++ wS g a_s3 s3_41) C (kX4_put l g _ a_s3 s3 p2 p3 s3_41 hq42) (cwV0 C (inr40 _ (List.mem_of_getElem? (i := 13) rfl)) mwX4_put hdX4_put ⟨Nat.le_of_ble_eq_true rfl, Nat.le_of_ble_eq_true rfl⟩) hK w hA [11, 12] [0, 1, 2, 3, 4, 5, 6, 7, 8, 9, 10] [0, 1, 2, 3, 4, 5, 6, 7, 8, 9, 10, 11, 12] (by decide) rfl rfl (by decide) (by decide) rfl (by decide) rfl rfl rfl hl.1 rfl (Nat.le_of_ble_eq_true rfl) ⟨Nat.zero_le _, Nat.zero_le _⟩ (dk_at dkX5_lay 31 rfl) (fun H locs w => ?_)
              refine lv_iconst (v := 1) C.1 C.2.1 (dk_at dkX5_lay 32 rfl) (by decide) ?_
              cases hf
              exact fin _ _ _ _ _ (dk_at dkX5_lay 33 rfl) rfl w
          · have hf := (if_neg c33).symm.trans hf
            refine lv_bipush (v := (-10)) C.1 C.2.1 (dk_at dkX5_lay 21 rfl) (by decide) ?_
            refine lv_iload C.1 C.2.1 (dk_at dkX5_lay 22 rfl) (lv_at hl 0 rfl) ?_
            refine lv_isub C.1 C.2.1 (dk_at dkX5_lay 23 rfl) ?_
            refine lv_topi (fun x43 ex43 => ?_)
            have hf := nm_at ex43 hf
            cases hf
            exact fin _ _ _ _ _ (dk_at dkX5_lay 24 rfl) rfl w
        · have hf : _ := (((if_neg (by rw [hs]; decide)).trans (if_neg (by rw [hs]; decide))).trans (if_neg (by rw [hs]; decide))).symm.trans hf
          refine r_alds (b := a_s3 0) C hK w.1 4 rfl h4 (by rw [hs]; rfl) (dk_at dkX5_lay 14 rfl) ?_
          refine r_get (v := .int (sLa s3)) C hK w.1 (fun w h => List.mem_cons_of_mem _ (inlX4 w h)) 11 rfl rfl 1 (by decide) (List.mem_cons_of_mem _ (inr40 _ (List.mem_of_getElem? (i := 8) rfl))) rfl (dk_at dkX5_lay 15 rfl) ?_
          refine lv_iload_n C.1 C.2.1 (dk_at dkX5_lay 16 rfl) rfl (lv_at hl 2 rfl) ?_
          obtain ⟨r44, hq45, hf⟩ := bd1_at hf
          refine r_roV (As := [.int (sLa s3), .int p2]) (rest := []) C (kX4_flawAt l g a_s0 s0 (sLa s3) p2 r44 hq45) (cwV0 C (inr40 _ (List.mem_of_getElem? (i := 9) rfl)) mwX4_flawAt hdX4_flawAt ⟨Nat.le_of_ble_eq_true rfl, Nat.le_of_ble_eq_true rfl⟩) hK (w.1.sub [5, 6] rfl) rfl rfl rfl hl.1 rfl (Nat.le_of_ble_eq_true rfl) ⟨Nat.zero_le _, Nat.zero_le _⟩ (dk_at dkX5_lay 17 rfl) ?_
          refine lv_istore (lv' := [(4, .int r44), (0, .ref (a_v 0)), (1, .int p1), (2, .int p2), (3, .int p3)]) C.1 C.2.1 (dk_at dkX5_lay 18 rfl) hl (by decide) rfl (fun ls hl => ?_)
          refine lv_iload C.1 C.2.1 (dk_at dkX5_lay 19 rfl) (lv_at hl 0 rfl) ?_
          refine lv_if_eq (tgt := 43) C.1 C.2.1 (dk_at dkX5_lay 20 rfl) (by decide) (fun c46 => ?_) (fun c46 => ?_)
          · have hf := (if_pos c46).symm.trans hf
            refine lv_aload_n C.1 C.2.1 (dk_at dkX5_lay 25 rfl) rfl (lv_at hl 1 rfl) ?_
            refine r_get (v := .ref (a_v 4)) C hK w.1 (fun w h => List.mem_cons_of_mem _ (inlX5 w h)) 0 rfl rfl 7 (by decide) (List.mem_cons_of_mem _ (inr2 _ (List.mem_of_getElem? (i := 7) rfl))) rfl (dk_at dkX5_lay 26 rfl) ?_
            refine lv_iload_n C.1 C.2.1 (dk_at dkX5_lay 27 rfl) rfl (lv_at hl 2 rfl) ?_
            obtain ⟨h47, hf⟩ := gd_at hf
            rcases lt4 (in_lt h47) with hs | hs | hs | hs
            · have hf : _ := (if_pos hs).symm.trans hf
              refine r_alds (b := a_s0 0) C hK w.1 4 rfl h47 (by rw [hs]; rfl) (dk_at dkX5_lay 28 rfl) ?_
              refine lv_iload_n C.1 C.2.1 (dk_at dkX5_lay 29 rfl) rfl (lv_at hl 3 rfl) ?_
              refine lv_iload_n C.1 C.2.1 (dk_at dkX5_lay 30 rfl) rfl (lv_at hl 4 rfl) ?_
              obtain ⟨s0_48, hq49, hf⟩ := bd1_at hf
              refine r_rwv (As := [.int p2, .int p3]) (rest := []) (wr := wV g a_v a_rd a_nw a_tr a_da a_i0 a_i1 a_s0 a_s1 a_s2 a_s3 v ++ wS g a_s1 s1 ++ wS g a_s2 s2 ++ wS g a_s3 s3) (ws' := wV g a_v a_rd a_nw a_tr a_da a_i0 a_i1 a_s0 a_s1 a_s2 a_s3 v ++ wS g a_s0 s0_48 ++ wS g a_s1 s1 ++ wS g a_s2 s2 ++ wS g a_s3 s3) C (kX4_put l g _ a_s0 s0 p2 p3 s0_48 hq49) (cwV0 C (inr40 _ (List.mem_of_getElem? (i := 13) rfl)) mwX4_put hdX4_put ⟨Nat.le_of_ble_eq_true rfl, Nat.le_of_ble_eq_true rfl⟩) hK w hA [5, 6] [0, 1, 2, 3, 4, 7, 8, 9, 10, 11, 12] [0, 1, 2, 3, 4, 11, 12, 5, 6, 7, 8, 9, 10] (by decide) rfl rfl (by decide) (by decide) rfl (by decide) rfl rfl rfl hl.1 rfl (Nat.le_of_ble_eq_true rfl) ⟨Nat.zero_le _, Nat.zero_le _⟩ (dk_at dkX5_lay 31 rfl) (fun H locs w => ?_)
              refine lv_iconst (v := 1) C.1 C.2.1 (dk_at dkX5_lay 32 rfl) (by decide) ?_
              cases hf
              exact fin _ _ _ _ _ (dk_at dkX5_lay 33 rfl) rfl w
            · have hf : _ := ((if_neg (by rw [hs]; decide)).trans (if_pos hs)).symm.trans hf
              refine r_alds (b := a_s1 0) C hK w.1 4 rfl h47 (by rw [hs]; rfl) (dk_at dkX5_lay 28 rfl) ?_
              refine lv_iload_n C.1 C.2.1 (dk_at dkX5_lay 29 rfl) rfl (lv_at hl 3 rfl) ?_
              refine lv_iload_n C.1 C.2.1 (dk_at dkX5_lay 30 rfl) rfl (lv_at hl 4 rfl) ?_
              obtain ⟨s1_50, hq51, hf⟩ := bd1_at hf
              refine r_rwv (As := [.int p2, .int p3]) (rest := []) (wr := wV g a_v a_rd a_nw a_tr a_da a_i0 a_i1 a_s0 a_s1 a_s2 a_s3 v ++ wS g a_s0 s0 ++ wS g a_s2 s2 ++ wS g a_s3 s3) (ws' := wV g a_v a_rd a_nw a_tr a_da a_i0 a_i1 a_s0 a_s1 a_s2 a_s3 v ++ wS g a_s0 s0 ++ wS g a_s1 s1_50 ++ wS g a_s2 s2 ++ wS g a_s3 s3) C (kX4_put l g _ a_s1 s1 p2 p3 s1_50 hq51) (cwV0 C (inr40 _ (List.mem_of_getElem? (i := 13) rfl)) mwX4_put hdX4_put ⟨Nat.le_of_ble_eq_true rfl, Nat.le_of_ble_eq_true rfl⟩) hK w hA [7, 8] [0, 1, 2, 3, 4, 5, 6, 9, 10, 11, 12] [0, 1, 2, 3, 4, 5, 6, 11, 12, 7, 8, 9, 10] (by decide) rfl rfl (by decide) (by decide) rfl (by decide) rfl rfl rfl hl.1 rfl (Nat.le_of_ble_eq_true rfl) ⟨Nat.zero_le _, Nat.zero_le _⟩ (dk_at dkX5_lay 31 rfl) (fun H locs w => ?_)
              refine lv_iconst (v := 1) C.1 C.2.1 (dk_at dkX5_lay 32 rfl) (by decide) ?_
              cases hf
              exact fin _ _ _ _ _ (dk_at dkX5_lay 33 rfl) rfl w
            · have hf : _ := (((if_neg (by rw [hs]; decide)).trans (if_neg (by rw [hs]; decide))).trans (if_pos hs)).symm.trans hf
              refine r_alds (b := a_s2 0) C hK w.1 4 rfl h47 (by rw [hs]; rfl) (dk_at dkX5_lay 28 rfl) ?_
              refine lv_iload_n C.1 C.2.1 (dk_at dkX5_lay 29 rfl) rfl (lv_at hl 3 rfl) ?_
              refine lv_iload_n C.1 C.2.1 (dk_at dkX5_lay 30 rfl) rfl (lv_at hl 4 rfl) ?_
              obtain ⟨s2_52, hq53, hf⟩ := bd1_at hf
              refine r_rwv (As := [.int p2, .int p3]) (rest := []) (wr := wV g a_v a_rd a_nw a_tr a_da a_i0 a_i1 a_s0 a_s1 a_s2 a_s3 v ++ wS g a_s0 s0 ++ wS g a_s1 s1 ++ wS g a_s3 s3) (ws' := wV g a_v a_rd a_nw a_tr a_da a_i0 a_i1 a_s0 a_s1 a_s2 a_s3 v ++ wS g a_s0 s0 ++ wS g a_s1 s1 ++ wS g a_s2 s2_52 ++ wS g a_s3 s3) C (kX4_put l g _ a_s2 s2 p2 p3 s2_52 hq53) (cwV0 C (inr40 _ (List.mem_of_getElem? (i := 13) rfl)) mwX4_put hdX4_put ⟨Nat.le_of_ble_eq_true rfl, Nat.le_of_ble_eq_true rfl⟩) hK w hA [9, 10] [0, 1, 2, 3, 4, 5, 6, 7, 8, 11, 12] [0, 1, 2, 3, 4, 5, 6, 7, 8, 11, 12, 9, 10] (by decide) rfl rfl (by decide) (by decide) rfl (by decide) rfl rfl rfl hl.1 rfl (Nat.le_of_ble_eq_true rfl) ⟨Nat.zero_le _, Nat.zero_le _⟩ (dk_at dkX5_lay 31 rfl) (fun H locs w => ?_)
              refine lv_iconst (v := 1) C.1 C.2.1 (dk_at dkX5_lay 32 rfl) (by decide) ?_
              cases hf
              exact fin _ _ _ _ _ (dk_at dkX5_lay 33 rfl) rfl w
            · have hf : _ := (((if_neg (by rw [hs]; decide)).trans (if_neg (by rw [hs]; decide))).trans (if_neg (by rw [hs]; decide))).symm.trans hf
              refine r_alds (b := a_s3 0) C hK w.1 4 rfl h47 (by rw [hs]; rfl) (dk_at dkX5_lay 28 rfl) ?_
              refine lv_iload_n C.1 C.2.1 (dk_at dkX5_lay 29 rfl) rfl (lv_at hl 3 rfl) ?_
              refine lv_iload_n C.1 C.2.1 (dk_at dkX5_lay 30 rfl) rfl (lv_at hl 4 rfl) ?_
              obtain ⟨s3_54, hq55, hf⟩ := bd1_at hf
              refine r_rwv (As := [.int p2, .int p3]) (rest := []) (wr := wV g a_v a_rd a_nw a_tr a_da a_i0 a_i1 a_s0 a_s1 a_s2 a_s3 v ++ wS g a_s0 s0 ++ wS g a_s1 s1 ++ wS g a_s2 s2) (ws' := wV g a_v a_rd a_nw a_tr a_da a_i0 a_i1 a_s0 a_s1 a_s2 a_s3 v ++ wS g a_s0 s0 ++ wS g a_s1 s1 ++ wS g a_s2 s2 ++ wS g a_s3 s3_54) C (kX4_put l g _ a_s3 s3 p2 p3 s3_54 hq55) (cwV0 C (inr40 _ (List.mem_of_getElem? (i := 13) rfl)) mwX4_put hdX4_put ⟨Nat.le_of_ble_eq_true rfl, Nat.le_of_ble_eq_true rfl⟩) hK w hA [11, 12] [0, 1, 2, 3, 4, 5, 6, 7, 8, 9, 10] [0, 1, 2, 3, 4, 5, 6, 7, 8, 9, 10, 11, 12] (by decide) rfl rfl (by decide) (by decide) rfl (by decide) rfl rfl rfl hl.1 rfl (Nat.le_of_ble_eq_true rfl) ⟨Nat.zero_le _, Nat.zero_le _⟩ (dk_at dkX5_lay 31 rfl) (fun H locs w => ?_)
              refine lv_iconst (v := 1) C.1 C.2.1 (dk_at dkX5_lay 32 rfl) (by decide) ?_
              cases hf
              exact fin _ _ _ _ _ (dk_at dkX5_lay 33 rfl) rfl w
          · have hf := (if_neg c46).symm.trans hf
            refine lv_bipush (v := (-10)) C.1 C.2.1 (dk_at dkX5_lay 21 rfl) (by decide) ?_
            refine lv_iload C.1 C.2.1 (dk_at dkX5_lay 22 rfl) (lv_at hl 0 rfl) ?_
            refine lv_isub C.1 C.2.1 (dk_at dkX5_lay 23 rfl) ?_
            refine lv_topi (fun x56 ex56 => ?_)
            have hf := nm_at ex56 hf
            cases hf
            exact fin _ _ _ _ _ (dk_at dkX5_lay 24 rfl) rfl w
      · have hf : _ := ((if_neg (by rw [hs]; decide)).trans (if_pos hs)).symm.trans hf
        refine r_alds (b := a_s1 0) C hK w.1 4 rfl h3 (by rw [hs]; rfl) (dk_at dkX5_lay 10 rfl) ?_
        refine lv_aload_n C.1 C.2.1 (dk_at dkX5_lay 11 rfl) rfl (lv_at hl 0 rfl) ?_
        refine r_get (v := .ref (a_v 4)) C hK w.1 (fun w h => List.mem_cons_of_mem _ (inlX5 w h)) 0 rfl rfl 7 (by decide) (List.mem_cons_of_mem _ (inr2 _ (List.mem_of_getElem? (i := 7) rfl))) rfl (dk_at dkX5_lay 12 rfl) ?_
        refine lv_iload_n C.1 C.2.1 (dk_at dkX5_lay 13 rfl) rfl (lv_at hl 1 rfl) ?_
        obtain ⟨h57, hf⟩ := gd_at hf
        rcases lt4 (in_lt h57) with hs | hs | hs | hs
        · have hf : _ := (if_pos hs).symm.trans hf
          refine r_alds (b := a_s0 0) C hK w.1 4 rfl h57 (by rw [hs]; rfl) (dk_at dkX5_lay 14 rfl) ?_
          refine r_get (v := .int (sLa s0)) C hK w.1 (fun w h => List.mem_cons_of_mem _ (inlX4 w h)) 5 rfl rfl 1 (by decide) (List.mem_cons_of_mem _ (inr40 _ (List.mem_of_getElem? (i := 8) rfl))) rfl (dk_at dkX5_lay 15 rfl) ?_
          refine lv_iload_n C.1 C.2.1 (dk_at dkX5_lay 16 rfl) rfl (lv_at hl 2 rfl) ?_
          obtain ⟨r58, hq59, hf⟩ := bd1_at hf
          refine r_roV (As := [.int (sLa s0), .int p2]) (rest := []) C (kX4_flawAt l g a_s1 s1 (sLa s0) p2 r58 hq59) (cwV0 C (inr40 _ (List.mem_of_getElem? (i := 9) rfl)) mwX4_flawAt hdX4_flawAt ⟨Nat.le_of_ble_eq_true rfl, Nat.le_of_ble_eq_true rfl⟩) hK (w.1.sub [7, 8] rfl) rfl rfl rfl hl.1 rfl (Nat.le_of_ble_eq_true rfl) ⟨Nat.zero_le _, Nat.zero_le _⟩ (dk_at dkX5_lay 17 rfl) ?_
          refine lv_istore (lv' := [(4, .int r58), (0, .ref (a_v 0)), (1, .int p1), (2, .int p2), (3, .int p3)]) C.1 C.2.1 (dk_at dkX5_lay 18 rfl) hl (by decide) rfl (fun ls hl => ?_)
          refine lv_iload C.1 C.2.1 (dk_at dkX5_lay 19 rfl) (lv_at hl 0 rfl) ?_
          refine lv_if_eq (tgt := 43) C.1 C.2.1 (dk_at dkX5_lay 20 rfl) (by decide) (fun c60 => ?_) (fun c60 => ?_)
          · have hf := (if_pos c60).symm.trans hf
            refine lv_aload_n C.1 C.2.1 (dk_at dkX5_lay 25 rfl) rfl (lv_at hl 1 rfl) ?_
            refine r_get (v := .ref (a_v 4)) C hK w.1 (fun w h => List.mem_cons_of_mem _ (inlX5 w h)) 0 rfl rfl 7 (by decide) (List.mem_cons_of_mem _ (inr2 _ (List.mem_of_getElem? (i := 7) rfl))) rfl (dk_at dkX5_lay 26 rfl) ?_
            refine lv_iload_n C.1 C.2.1 (dk_at dkX5_lay 27 rfl) rfl (lv_at hl 2 rfl) ?_
            obtain ⟨h61, hf⟩ := gd_at hf
            rcases lt4 (in_lt h61) with hs | hs | hs | hs
            · have hf : _ := (if_pos hs).symm.trans hf
              refine r_alds (b := a_s0 0) C hK w.1 4 rfl h61 (by rw [hs]; rfl) (dk_at dkX5_lay 28 rfl) ?_
              refine lv_iload_n C.1 C.2.1 (dk_at dkX5_lay 29 rfl) rfl (lv_at hl 3 rfl) ?_
              refine lv_iload_n C.1 C.2.1 (dk_at dkX5_lay 30 rfl) rfl (lv_at hl 4 rfl) ?_
              obtain ⟨s0_62, hq63, hf⟩ := bd1_at hf
              refine r_rwv (As := [.int p2, .int p3]) (rest := []) (wr := wV g a_v a_rd a_nw a_tr a_da a_i0 a_i1 a_s0 a_s1 a_s2 a_s3 v ++ wS g a_s1 s1 ++ wS g a_s2 s2 ++ wS g a_s3 s3) (ws' := wV g a_v a_rd a_nw a_tr a_da a_i0 a_i1 a_s0 a_s1 a_s2 a_s3 v ++ wS g a_s0 s0_62 ++ wS g a_s1 s1 ++ wS g a_s2 s2 ++ wS g a_s3 s3) C (kX4_put l g _ a_s0 s0 p2 p3 s0_62 hq63) (cwV0 C (inr40 _ (List.mem_of_getElem? (i := 13) rfl)) mwX4_put hdX4_put ⟨Nat.le_of_ble_eq_true rfl, Nat.le_of_ble_eq_true rfl⟩) hK w hA [5, 6] [0, 1, 2, 3, 4, 7, 8, 9, 10, 11, 12] [0, 1, 2, 3, 4, 11, 12, 5, 6, 7, 8, 9, 10] (by decide) rfl rfl (by decide) (by decide) rfl (by decide) rfl rfl rfl hl.1 rfl (Nat.le_of_ble_eq_true rfl) ⟨Nat.zero_le _, Nat.zero_le _⟩ (dk_at dkX5_lay 31 rfl) (fun H locs w => ?_)
              refine lv_iconst (v := 1) C.1 C.2.1 (dk_at dkX5_lay 32 rfl) (by decide) ?_
              cases hf
              exact fin _ _ _ _ _ (dk_at dkX5_lay 33 rfl) rfl w
            · have hf : _ := ((if_neg (by rw [hs]; decide)).trans (if_pos hs)).symm.trans hf
              refine r_alds (b := a_s1 0) C hK w.1 4 rfl h61 (by rw [hs]; rfl) (dk_at dkX5_lay 28 rfl) ?_
              refine lv_iload_n C.1 C.2.1 (dk_at dkX5_lay 29 rfl) rfl (lv_at hl 3 rfl) ?_
              refine lv_iload_n C.1 C.2.1 (dk_at dkX5_lay 30 rfl) rfl (lv_at hl 4 rfl) ?_
              obtain ⟨s1_64, hq65, hf⟩ := bd1_at hf
              refine r_rwv (As := [.int p2, .int p3]) (rest := []) (wr := wV g a_v a_rd a_nw a_tr a_da a_i0 a_i1 a_s0 a_s1 a_s2 a_s3 v ++ wS g a_s0 s0 ++ wS g a_s2 s2 ++ wS g a_s3 s3) (ws' := wV g a_v a_rd a_nw a_tr a_da a_i0 a_i1 a_s0 a_s1 a_s2 a_s3 v ++ wS g a_s0 s0 ++ wS g a_s1 s1_64 ++ wS g a_s2 s2 ++ wS g a_s3 s3) C (kX4_put l g _ a_s1 s1 p2 p3 s1_64 hq65) (cwV0 C (inr40 _ (List.mem_of_getElem? (i := 13) rfl)) mwX4_put hdX4_put ⟨Nat.le_of_ble_eq_true rfl, Nat.le_of_ble_eq_true rfl⟩) hK w hA [7, 8] [0, 1, 2, 3, 4, 5, 6, 9, 10, 11, 12] [0, 1, 2, 3, 4, 5, 6, 11, 12, 7, 8, 9, 10] (by decide) rfl rfl (by decide) (by decide) rfl (by decide) rfl rfl rfl hl.1 rfl (Nat.le_of_ble_eq_true rfl) ⟨Nat.zero_le _, Nat.zero_le _⟩ (dk_at dkX5_lay 31 rfl) (fun H locs w => ?_)
              refine lv_iconst (v := 1) C.1 C.2.1 (dk_at dkX5_lay 32 rfl) (by decide) ?_
              cases hf
              exact fin _ _ _ _ _ (dk_at dkX5_lay 33 rfl) rfl w
            · have hf : _ := (((if_neg (by rw [hs]; decide)).trans (if_neg (by rw [hs]; decide))).trans (if_pos hs)).symm.trans hf
              refine r_alds (b := a_s2 0) C hK w.1 4 rfl h61 (by rw [hs]; rfl) (dk_at dkX5_lay 28 rfl) ?_
              refine lv_iload_n C.1 C.2.1 (dk_at dkX5_lay 29 rfl) rfl (lv_at hl 3 rfl) ?_
              refine lv_iload_n C.1 C.2.1 (dk_at dkX5_lay 30 rfl) rfl (lv_at hl 4 rfl) ?_
              obtain ⟨s2_66, hq67, hf⟩ := bd1_at hf
              refine r_rwv (As := [.int p2, .int p3]) (rest := []) (wr := wV g a_v a_rd a_nw a_tr a_da a_i0 a_i1 a_s0 a_s1 a_s2 a_s3 v ++ wS g a_s0 s0 ++ wS g a_s1 s1 ++ wS g a_s3 s3) (ws' := wV g a_v a_rd a_nw a_tr a_da a_i0 a_i1 a_s0 a_s1 a_s2 a_s3 v ++ wS g a_s0 s0 ++ wS g a_s1 s1 ++ wS g a_s2 s2_66 ++ wS g a_s3 s3) C (kX4_put l g _ a_s2 s2 p2 p3 s2_66 hq67) (cwV0 C (inr40 _ (List.mem_of_getElem? (i := 13) rfl)) mwX4_put hdX4_put ⟨Nat.le_of_ble_eq_true rfl, Nat.le_of_ble_eq_true rfl⟩) hK w hA [9, 10] [0, 1, 2, 3, 4, 5, 6, 7, 8, 11, 12] [0, 1, 2, 3, 4, 5, 6, 7, 8, 11, 12, 9, 10] (by decide) rfl rfl (by decide) (by decide) rfl (by decide) rfl rfl rfl hl.1 rfl (Nat.le_of_ble_eq_true rfl) ⟨Nat.zero_le _, Nat.zero_le _⟩ (dk_at dkX5_lay 31 rfl) (fun H locs w => ?_)
              refine lv_iconst (v := 1) C.1 C.2.1 (dk_at dkX5_lay 32 rfl) (by decide) ?_
              cases hf
              exact fin _ _ _ _ _ (dk_at dkX5_lay 33 rfl) rfl w
            · have hf : _ := (((if_neg (by rw [hs]; decide)).trans (if_neg (by rw [hs]; decide))).trans (if_neg (by rw [hs]; decide))).symm.trans hf
              refine r_alds (b := a_s3 0) C hK w.1 4 rfl h61 (by rw [hs]; rfl) (dk_at dkX5_lay 28 rfl) ?_
              refine lv_iload_n C.1 C.2.1 (dk_at dkX5_lay 29 rfl) rfl (lv_at hl 3 rfl) ?_
              refine lv_iload_n C.1 C.2.1 (dk_at dkX5_lay 30 rfl) rfl (lv_at hl 4 rfl) ?_
              obtain ⟨s3_68, hq69, hf⟩ := bd1_at hf
              refine r_rwv (As := [.int p2, .int p3]) (rest := []) (wr := wV g a_v a_rd a_nw a_tr a_da a_i0 a_i1 a_s0 a_s1 a_s2 a_s3 v ++ wS g a_s0 s0 ++ wS g a_s1 s1 ++ wS g a_s2 s2) (ws' := wV g a_v a_rd a_nw a_tr a_da a_i0 a_i1 a_s0 a_s1 a_s2 a_s3 v ++ wS g a_s0 s0 ++ wS g a_s1 s1 ++ wS g a_s2 s2 ++ wS g a_s3 s3_68) C (kX4_put l g _ a_s3 s3 p2 p3 s3_68 hq69) (cwV0 C (inr40 _ (List.mem_of_getElem? (i := 13) rfl)) mwX4_put hdX4_put ⟨Nat.le_of_ble_eq_true rfl, Nat.le_of_ble_eq_true rfl⟩) hK w hA [11, 12] [0, 1, 2, 3, 4, 5, 6, 7, 8, 9, 10] [0, 1, 2, 3, 4, 5, 6, 7, 8, 9, 10, 11, 12] (by decide) rfl rfl (by decide) (by decide) rfl (by decide) rfl rfl rfl hl.1 rfl (Nat.le_of_ble_eq_true rfl) ⟨Nat.zero_le _, Nat.zero_le _⟩ (dk_at dkX5_lay 31 rfl) (fun H locs w => ?_)
              refine lv_iconst (v := 1) C.1 C.2.1 (dk_at dkX5_lay 32 rfl) (by decide) ?_
              cases hf
              exact fin _ _ _ _ _ (dk_at dkX5_lay 33 rfl) rfl w
          · have hf := (if_neg c60).symm.trans hf
            refine lv_bipush (v := (-10)) C.1 C.2.1 (dk_at dkX5_lay 21 rfl) (by decide) ?_
            refine lv_iload C.1 C.2.1 (dk_at dkX5_lay 22 rfl) (lv_at hl 0 rfl) ?_
            refine lv_isub C.1 C.2.1 (dk_at dkX5_lay 23 rfl) ?_
            refine lv_topi (fun x70 ex70 => ?_)
            have hf := nm_at ex70 hf
            cases hf
            exact fin _ _ _ _ _ (dk_at dkX5_lay 24 rfl) rfl w
        · have hf : _ := ((if_neg (by rw [hs]; decide)).trans (if_pos hs)).symm.trans hf
          refine r_alds (b := a_s1 0) C hK w.1 4 rfl h57 (by rw [hs]; rfl) (dk_at dkX5_lay 14 rfl) ?_
          refine r_get (v := .int (sLa s1)) C hK w.1 (fun w h => List.mem_cons_of_mem _ (inlX4 w h)) 7 rfl rfl 1 (by decide) (List.mem_cons_of_mem _ (inr40 _ (List.mem_of_getElem? (i := 8) rfl))) rfl (dk_at dkX5_lay 15 rfl) ?_
          refine lv_iload_n C.1 C.2.1 (dk_at dkX5_lay 16 rfl) rfl (lv_at hl 2 rfl) ?_
          obtain ⟨r71, hq72, hf⟩ := bd1_at hf
          refine r_roV (As := [.int (sLa s1), .int p2]) (rest := []) C (kX4_flawAt l g a_s1 s1 (sLa s1) p2 r71 hq72) (cwV0 C (inr40 _ (List.mem_of_getElem? (i := 9) rfl)) mwX4_flawAt hdX4_flawAt ⟨Nat.le_of_ble_eq_true rfl, Nat.le_of_ble_eq_true rfl⟩) hK (w.1.sub [7, 8] rfl) rfl rfl rfl hl.1 rfl (Nat.le_of_ble_eq_true rfl) ⟨Nat.zero_le _, Nat.zero_le _⟩ (dk_at dkX5_lay 17 rfl) ?_
          refine lv_istore (lv' := [(4, .int r71), (0, .ref (a_v 0)), (1, .int p1), (2, .int p2), (3, .int p3)]) C.1 C.2.1 (dk_at dkX5_lay 18 rfl) hl (by decide) rfl (fun ls hl => ?_)
          refine lv_iload C.1 C.2.1 (dk_at dkX5_lay 19 rfl) (lv_at hl 0 rfl) ?_
          refine lv_if_eq (tgt := 43) C.1 C.2.1 (dk_at dkX5_lay 20 rfl) (by decide) (fun c73 => ?_) (fun c73 => ?_)
          · have hf := (if_pos c73).symm.trans hf
            refine lv_aload_n C.1 C.2.1 (dk_at dkX5_lay 25 rfl) rfl (lv_at hl 1 rfl) ?_
            refine r_get (v := .ref (a_v 4)) C hK w.1 (fun w h => List.mem_cons_of_mem _ (inlX5 w h)) 0 rfl rfl 7 (by decide) (List.mem_cons_of_mem _ (inr2 _ (List.mem_of_getElem? (i := 7) rfl))) rfl (dk_at dkX5_lay 26 rfl) ?_
            refine lv_iload_n C.1 C.2.1 (dk_at dkX5_lay 27 rfl) rfl (lv_at hl 2 rfl) ?_
            obtain ⟨h74, hf⟩ := gd_at hf
            rcases lt4 (in_lt h74) with hs | hs | hs | hs
            · have hf : _ := (if_pos hs).symm.trans hf
              refine r_alds (b := a_s0 0) C hK w.1 4 rfl h74 (by rw [hs]; rfl) (dk_at dkX5_lay 28 rfl) ?_
              refine lv_iload_n C.1 C.2.1 (dk_at dkX5_lay 29 rfl) rfl (lv_at hl 3 rfl) ?_
              refine lv_iload_n C.1 C.2.1 (dk_at dkX5_lay 30 rfl) rfl (lv_at hl 4 rfl) ?_
              obtain ⟨s0_75, hq76, hf⟩ := bd1_at hf
              refine r_rwv (As := [.int p2, .int p3]) (rest := []) (wr := wV g a_v a_rd a_nw a_tr a_da a_i0 a_i1 a_s0 a_s1 a_s2 a_s3 v ++ wS g a_s1 s1 ++ wS g a_s2 s2 ++ wS g a_s3 s3) (ws' := wV g a_v a_rd a_nw a_tr a_da a_i0 a_i1 a_s0 a_s1 a_s2 a_s3 v ++ wS g a_s0 s0_75 ++ wS g a_s1 s1 ++ wS g a_s2 s2 ++ wS g a_s3 s3) C (kX4_put l g _ a_s0 s0 p2 p3 s0_75 hq76) (cwV0 C (inr40 _ (List.mem_of_getElem? (i := 13) rfl)) mwX4_put hdX4_put ⟨Nat.le_of_ble_eq_true rfl, Nat.le_of_ble_eq_true rfl⟩) hK w hA [5, 6] [0, 1, 2, 3, 4, 7, 8, 9, 10, 11, 12] [0, 1, 2, 3, 4, 11, 12, 5, 6, 7, 8, 9, 10] (by decide) rfl rfl (by decide) (by decide) rfl (by decide) rfl rfl rfl hl.1 rfl (Nat.le_of_ble_eq_true rfl) ⟨Nat.zero_le _, Nat.zero_le _⟩ (dk_at dkX5_lay 31 rfl) (fun H locs w => ?_)
              refine lv_iconst (v := 1) C.1 C.2.1 (dk_at dkX5_lay 32 rfl) (by decide) ?_
              cases hf
              exact fin _ _ _ _ _ (dk_at dkX5_lay 33 rfl) rfl w
            · have hf : _ := ((if_neg (by rw [hs]; decide)).trans (if_pos hs)).symm.trans hf
              refine r_alds (b := a_s1 0) C hK w.1 4 rfl h74 (by rw [hs]; rfl) (dk_at dkX5_lay 28 rfl) ?_
              refine lv_iload_n C.1 C.2.1 (dk_at dkX5_lay 29 rfl) rfl (lv_at hl 3 rfl) ?_
              refine lv_iload_n C.1 C.2.1 (dk_at dkX5_lay 30 rfl) rfl (lv_at hl 4 rfl) ?_
              obtain ⟨s1_77, hq78, hf⟩ := bd1_at hf
              refine r_rwv (As := [.int p2, .int p3]) (rest := []) (wr := wV g a_v a_rd a_nw a_tr a_da a_i0 a_i1 a_s0 a_s1 a_s2 a_s3 v ++ wS g a_s0 s0 ++ wS g a_s2 s2 ++ wS g a_s3 s3) (ws' := wV g a_v a_rd a_nw a_tr a_da a_i0 a_i1 a_s0 a_s1 a_s2 a_s3 v ++ wS g a_s0 s0 ++ wS g a_s1 s1_77 ++ wS g a_s2 s2 ++ wS g a_s3 s3) C (kX4_put l g _ a_s1 s1 p2 p3 s1_77 hq78) (cwV0 C (inr40 _ (List.mem_of_getElem? (i := 13) rfl)) mwX4_put hdX4_put ⟨Nat.le_of_ble_eq_true rfl, Nat.le_of_ble_eq_true rfl⟩) hK w hA [7, 8] [0, 1, 2, 3, 4, 5, 6, 9, 10, 11, 12] [0, 1, 2, 3, 4, 5, 6, 11, 12, 7, 8, 9, 10] (by decide) rfl rfl (by decide) (by decide) rfl (by decide) rfl rfl rfl hl.1 rfl (Nat.le_of_ble_eq_true rfl) ⟨Nat.zero_le _, Nat.zero_le _⟩ (dk_at dkX5_lay 31 rfl) (fun H locs w => ?_)
              refine lv_iconst (v := 1) C.1 C.2.1 (dk_at dkX5_lay 32 rfl) (by decide) ?_
              cases hf
              exact fin _ _ _ _ _ (dk_at dkX5_lay 33 rfl) rfl w
            · have hf : _ := (((if_neg (by rw [hs]; decide)).trans (if_neg (by rw [hs]; decide))).trans (if_pos hs)).symm.trans hf
              refine r_alds (b := a_s2 0) C hK w.1 4 rfl h74 (by rw [hs]; rfl) (dk_at dkX5_lay 28 rfl) ?_
              refine lv_iload_n C.1 C.2.1 (dk_at dkX5_lay 29 rfl) rfl (lv_at hl 3 rfl) ?_
              refine lv_iload_n C.1 C.2.1 (dk_at dkX5_lay 30 rfl) rfl (lv_at hl 4 rfl) ?_
              obtain ⟨s2_79, hq80, hf⟩ := bd1_at hf
              refine r_rwv (As := [.int p2, .int p3]) (rest := []) (wr := wV g a_v a_rd a_nw a_tr a_da a_i0 a_i1 a_s0 a_s1 a_s2 a_s3 v ++ wS g a_s0 s0 ++ wS g a_s1 s1 ++ wS g a_s3 s3) (ws' := wV g a_v a_rd a_nw a_tr a_da a_i0 a_i1 a_s0 a_s1 a_s2 a_s3 v ++ wS g a_s0 s0 ++ wS g a_s1 s1 ++ wS g a_s2 s2_79 ++ wS g a_s3 s3) C (kX4_put l g _ a_s2 s2 p2 p3 s2_79 hq80) (cwV0 C (inr40 _ (List.mem_of_getElem? (i := 13) rfl)) mwX4_put hdX4_put ⟨Nat.le_of_ble_eq_true rfl, Nat.le_of_ble_eq_true rfl⟩) hK w hA [9, 10] [0, 1, 2, 3, 4, 5, 6, 7, 8, 11, 12] [0, 1, 2, 3, 4, 5, 6, 7, 8, 11, 12, 9, 10] (by decide) rfl rfl (by decide) (by decide) rfl (by decide) rfl rfl rfl hl.1 rfl (Nat.le_of_ble_eq_true rfl) ⟨Nat.zero_le _, Nat.zero_le _⟩ (dk_at dkX5_lay 31 rfl) (fun H locs w => ?_)
              refine lv_iconst (v := 1) C.1 C.2.1 (dk_at dkX5_lay 32 rfl) (by decide) ?_
              cases hf
              exact fin _ _ _ _ _ (dk_at dkX5_lay 33 rfl) rfl w
            · have hf : _ := (((if_neg (by rw [hs]; decide)).trans (if_neg (by rw [hs]; decide))).trans (if_neg (by rw [hs]; decide))).symm.trans hf
              refine r_alds (b := a_s3 0) C hK w.1 4 rfl h74 (by rw [hs]; rfl) (dk_at dkX5_lay 28 rfl) ?_
              refine lv_iload_n C.1 C.2.1 (dk_at dkX5_lay 29 rfl) rfl (lv_at hl 3 rfl) ?_
              refine lv_iload_n C.1 C.2.1 (dk_at dkX5_lay 30 rfl) rfl (lv_at hl 4 rfl) ?_
              obtain ⟨s3_81, hq82, hf⟩ := bd1_at hf
              refine r_rwv (As := [.int p2, .int p3]) (rest := []) (wr := wV g a_v a_rd a_nw a_tr a_da a_i0 a_i1 a_s0 a_s1 a_s2 a_s3 v ++ wS g a_s0 s0 ++ wS g a_s1 s1 ++ wS g a_s2 s2) (ws' := wV g a_v a_rd a_nw a_tr a_da a_i0 a_i1 a_s0 a_s1 a_s2 a_s3 v ++ wS g a_s0 s0 ++ wS g a_s1 s1 ++ wS g a_s2 s2 ++ wS g a_s3 s3_81) C (kX4_put l g _ a_s3 s3 p2 p3 s3_81 hq82) (cwV0 C (inr40 _ (List.mem_of_getElem? (i := 13) rfl)) mwX4_put hdX4_put ⟨Nat.le_of_ble_eq_true rfl, Nat.le_of_ble_eq_true rfl⟩) hK w hA [11, 12] [0, 1, 2, 3, 4, 5, 6, 7, 8, 9, 10] [0, 1, 2, 3, 4, 5, 6, 7, 8, 9, 10, 11, 12] (by decide) rfl rfl (by decide) (by decide) rfl (by decide) rfl rfl rfl hl.1 rfl (Nat.le_of_ble_eq_true rfl) ⟨Nat.zero_le _, Nat.zero_le _⟩ (dk_at dkX5_lay 31 rfl) (fun H locs w => ?_)
              refine lv_iconst (v := 1) C.1 C.2.1 (dk_at dkX5_lay 32 rfl) (by decide) ?_
              cases hf
              exact fin _ _ _ _ _ (dk_at dkX5_lay 33 rfl) rfl w
          · have hf := (if_neg c73).symm.trans hf
            refine lv_bipush (v := (-10)) C.1 C.2.1 (dk_at dkX5_lay 21 rfl) (by decide) ?_
            refine lv_iload C.1 C.2.1 (dk_at dkX5_lay 22 rfl) (lv_at hl 0 rfl) ?_
            refine lv_isub C.1 C.2.1 (dk_at dkX5_lay 23 rfl) ?_
            refine lv_topi (fun x83 ex83 => ?_)
            have hf := nm_at ex83 hf
            cases hf
            exact fin _ _ _ _ _ (dk_at dkX5_lay 24 rfl) rfl w
        · have hf : _ := (((if_neg (by rw [hs]; decide)).trans (if_neg (by rw [hs]; decide))).trans (if_pos hs)).symm.trans hf
          refine r_alds (b := a_s2 0) C hK w.1 4 rfl h57 (by rw [hs]; rfl) (dk_at dkX5_lay 14 rfl) ?_
          refine r_get (v := .int (sLa s2)) C hK w.1 (fun w h => List.mem_cons_of_mem _ (inlX4 w h)) 9 rfl rfl 1 (by decide) (List.mem_cons_of_mem _ (inr40 _ (List.mem_of_getElem? (i := 8) rfl))) rfl (dk_at dkX5_lay 15 rfl) ?_
          refine lv_iload_n C.1 C.2.1 (dk_at dkX5_lay 16 rfl) rfl (lv_at hl 2 rfl) ?_
          obtain ⟨r84, hq85, hf⟩ := bd1_at hf
          refine r_roV (As := [.int (sLa s2), .int p2]) (rest := []) C (kX4_flawAt l g a_s1 s1 (sLa s2) p2 r84 hq85) (cwV0 C (inr40 _ (List.mem_of_getElem? (i := 9) rfl)) mwX4_flawAt hdX4_flawAt ⟨Nat.le_of_ble_eq_true rfl, Nat.le_of_ble_eq_true rfl⟩) hK (w.1.sub [7, 8] rfl) rfl rfl rfl hl.1 rfl (Nat.le_of_ble_eq_true rfl) ⟨Nat.zero_le _, Nat.zero_le _⟩ (dk_at dkX5_lay 17 rfl) ?_
          refine lv_istore (lv' := [(4, .int r84), (0, .ref (a_v 0)), (1, .int p1), (2, .int p2), (3, .int p3)]) C.1 C.2.1 (dk_at dkX5_lay 18 rfl) hl (by decide) rfl (fun ls hl => ?_)
          refine lv_iload C.1 C.2.1 (dk_at dkX5_lay 19 rfl) (lv_at hl 0 rfl) ?_
          refine lv_if_eq (tgt := 43) C.1 C.2.1 (dk_at dkX5_lay 20 rfl) (by decide) (fun c86 => ?_) (fun c86 => ?_)
          · have hf := (if_pos c86).symm.trans hf
            refine lv_aload_n C.1 C.2.1 (dk_at dkX5_lay 25 rfl) rfl (lv_at hl 1 rfl) ?_
            refine r_get (v := .ref (a_v 4)) C hK w.1 (fun w h => List.mem_cons_of_mem _ (inlX5 w h)) 0 rfl rfl 7 (by decide) (List.mem_cons_of_mem _ (inr2 _ (List.mem_of_getElem? (i := 7) rfl))) rfl (dk_at dkX5_lay 26 rfl) ?_
            refine lv_iload_n C.1 C.2.1 (dk_at dkX5_lay 27 rfl) rfl (lv_at hl 2 rfl) ?_
            obtain ⟨h87, hf⟩ := gd_at hf
            rcases lt4 (in_lt h87) with hs | hs | hs | hs
            · have hf : _ := (if_pos hs).symm.trans hf
              refine r_alds (b := a_s0 0) C hK w.1 4 rfl h87 (by rw [hs]; rfl) (dk_at dkX5_lay 28 rfl) ?_
              refine lv_iload_n C.1 C.2.1 (dk_at dkX5_lay 29 rfl) rfl (lv_at hl 3 rfl) ?_
              refine lv_iload_n C.1 C.2.1 (dk_at dkX5_lay 30 rfl) rfl (lv_at hl 4 rfl) ?_
              obtain ⟨s0_88, hq89, hf⟩ := bd1_at hf
              refine r_rwv (As := [.int p2, .int p3]) (rest := []) (wr := wV g a_v a_rd a_nw a_tr a_da a_i0 a_i1 a_s0 a_s1 a_s2 a_s3 v ++ wS g a_s1 s1 ++ wS g a_s2 s2 ++ wS g a_s3 s3) (ws' := wV g a_v a_rd a_nw a_tr a_da a_i0 a_i1 a_s0 a_s1 a_s2 a_s3 v ++ wS g a_s0 s0_88 ++ wS g a_s1 s1 ++ wS g a_s2 s2 ++ wS g a_s3 s3) C (kX4_put l g _ a_s0 s0 p2 p3 s0_88 hq89) (cwV0 C (inr40 _ (List.mem_of_getElem? (i := 13) rfl)) mwX4_put hdX4_put ⟨Nat.le_of_ble_eq_true rfl, Nat.le_of_ble_eq_true rfl⟩) hK w hA [5, 6] [0, 1, 2, 3, 4, 7, 8, 9, 10, 11, 12] [0, 1, 2, 3, 4, 11, 12, 5, 6, 7, 8, 9, 10] (by decide) rfl rfl (by decide) (by decide) rfl (by decide) rfl rfl rfl hl.1 rfl (Nat.le_of_ble_eq_true rfl) ⟨Nat.zero_le _, Nat.zero_le _⟩ (dk_at dkX5_lay 31 rfl) (fun H locs w => ?_)
              refine lv_iconst (v := 1) C.1 C.2.1 (dk_at dkX5_lay 32 rfl) (by decide) ?_
              cases hf
              exact fin _ _ _ _ _ (dk_at dkX5_lay 33 rfl) rfl w
            · have hf : _ := ((if_neg (by rw [hs]; decide)).trans (if_pos hs)).symm.trans hf
              refine r_alds (b := a_s1 0) C hK w.1 4 rfl h87 (by rw [hs]; rfl) (dk_at dkX5_lay 28 rfl) ?_
              refine lv_iload_n C.1 C.2.1 (dk_at dkX5_lay 29 rfl) rfl (lv_at hl 3 rfl) ?_
              refine lv_iload_n C.1 C.2.1 (dk_at dkX5_lay 30 rfl) rfl (lv_at hl 4 rfl) ?_
              obtain ⟨s1_90, hq91, hf⟩ := bd1_at hf
              refine r_rwv (As := [.int p2, .int p3]) (rest := []) (wr := wV g a_v a_rd a_nw a_tr a_da a_i0 a_i1 a_s0 a_s1 a_s2 a_s3 v ++ wS g a_s0 s0 ++ wS g a_s2 s2 ++ wS g a_s3 s3) (ws' := wV g a_v a_rd a_nw a_tr a_da a_i0 a_i1 a_s0 a_s1 a_s2 a_s3 v ++ wS g a_s0 s0 ++ wS g a_s1 s1_90 ++ wS g a_s2 s2 ++ wS g a_s3 s3) C (kX4_put l g _ a_s1 s1 p2 p3 s1_90 hq91) (cwV0 C (inr40 _ (List.mem_of_getElem? (i := 13) rfl)) mwX4_put hdX4_put ⟨Nat.le_of_ble_eq_true rfl, Nat.le_of_ble_eq_true rfl⟩) hK w hA [7, 8] [0, 1, 2, 3, 4, 5, 6, 9, 10, 11, 12] [0, 1, 2, 3, 4, 5, 6, 11, 12, 7, 8, 9, 10] (by decide) rfl rfl (by decide) (by decide) rfl (by decide) rfl rfl rfl hl.1 rfl (Nat.le_of_ble_eq_true rfl) ⟨Nat.zero_le _, Nat.zero_le _⟩ (dk_at dkX5_lay 31 rfl) (fun H locs w => ?_)
              refine lv_iconst (v := 1) C.1 C.2.1 (dk_at dkX5_lay 32 rfl) (by decide) ?_
              cases hf
              exact fin _ _ _ _ _ (dk_at dkX5_lay 33 rfl) rfl w
            · have hf : _ := (((if_neg (by rw [hs]; decide)).trans (if_neg (by rw [hs]; decide))).trans (if_pos hs)).symm.trans hf
              refine r_alds (b := a_s2 0) C hK w.1 4 rfl h87 (by rw [hs]; rfl) (dk_at dkX5_lay 28 rfl) ?_
              refine lv_iload_n C.1 C.2.1 (dk_at dkX5_lay 29 rfl) rfl (lv_at hl 3 rfl) ?_
              refine lv_iload_n C.1 C.2.1 (dk_at dkX5_lay 30 rfl) rfl (lv_at hl 4 rfl) ?_
              obtain ⟨s2_92, hq93, hf⟩ := bd1_at hf
              refine r_rwv (As := [.int p2, .int p3]) (rest := []) (wr := wV g a_v a_rd a_nw a_tr a_da a_i0 a_i1 a_s0 a_s1 a_s2 a_s3 v ++ wS g a_s0 s0 ++ wS g a_s1 s1 ++ wS g a_s3 s3) (ws' := wV g a_v a_rd a_nw a_tr a_da a_i0 a_i1 a_s0 a_s1 a_s2 a_s3 v ++ wS g a_s0 s0 ++ wS g a_s1 s1 ++ wS g a_s2 s2_92 ++ wS g a_s3 s3) C (kX4_put l g _ a_s2 s2 p2 p3 s2_92 hq93) (cwV0 C (inr40 _ (List.mem_of_getElem? (i := 13) rfl)) mwX4_put hdX4_put ⟨Nat.le_of_ble_eq_true rfl, Nat.le_of_ble_eq_true rfl⟩) hK w hA [9, 10] [0, 1, 2, 3, 4, 5, 6, 7, 8, 11, 12] [0, 1, 2, 3, 4, 5, 6, 7, 8, 11, 12, 9, 10] (by decide) rfl rfl (by decide) (by decide) rfl (by decide) rfl rfl rfl hl.1 rfl (Nat.le_of_ble_eq_true rfl) ⟨Nat.zero_le _, Nat.zero_le _⟩ (dk_at dkX5_lay 31 rfl) (fun H locs w => ?_)
              refine lv_iconst (v := 1) C.1 C.2.1 (dk_at dkX5_lay 32 rfl) (by decide) ?_
              cases hf
              exact fin _ _ _ _ _ (dk_at dkX5_lay 33 rfl) rfl w
            · have hf : _ := (((if_neg (by rw [hs]; decide)).trans (if_neg (by rw [hs]; decide))).trans (if_neg (by rw [hs]; decide))).symm.trans hf
              refine r_alds (b := a_s3 0) C hK w.1 4 rfl h87 (by rw [hs]; rfl) (dk_at dkX5_lay 28 rfl) ?_
              refine lv_iload_n C.1 C.2.1 (dk_at dkX5_lay 29 rfl) rfl (lv_at hl 3 rfl) ?_
              refine lv_iload_n C.1 C.2.1 (dk_at dkX5_lay 30 rfl) rfl (lv_at hl 4 rfl) ?_
              obtain ⟨s3_94, hq95, hf⟩ := bd1_at hf
              refine r_rwv (As := [.int p2, .int p3]) (rest := []) (wr := wV g a_v a_rd a_nw a_tr a_da a_i0 a_i1 a_s0 a_s1 a_s2 a_s3 v ++ wS g a_s0 s0 ++ wS g a_s1 s1 ++ wS g a_s2 s2) (ws' := wV g a_v a_rd a_nw a_tr a_da a_i0 a_i1 a_s0 a_s1 a_s2 a_s3 v ++ wS g a_s0 s0 ++ wS g a_s1 s1 ++ wS g a_s2 s2 ++ wS g a_s3 s3_94) C (kX4_put l g _ a_s3 s3 p2 p3 s3_94 hq95) (cwV0 C (inr40 _ (List.mem_of_getElem? (i := 13) rfl)) mwX4_put hdX4_put ⟨Nat.le_of_ble_eq_true rfl, Nat.le_of_ble_eq_true rfl⟩) hK w hA [11, 12] [0, 1, 2, 3, 4, 5, 6, 7, 8, 9, 10] [0, 1, 2, 3, 4, 5, 6, 7, 8, 9, 10, 11, 12] (by decide) rfl rfl (by decide) (by decide) rfl (by decide) rfl rfl rfl hl.1 rfl (Nat.le_of_ble_eq_true rfl) ⟨Nat.zero_le _, Nat.zero_le _⟩ (dk_at dkX5_lay 31 rfl) (fun H locs w => ?_)
              refine lv_iconst (v := 1) C.1 C.2.1 (dk_at dkX5_lay 32 rfl) (by decide) ?_
              cases hf
              exact fin _ _ _ _ _ (dk_at dkX5_lay 33 rfl) rfl w
          · have hf := (if_neg c86).symm.trans hf
            refine lv_bipush (v := (-10)) C.1 C.2.1 (dk_at dkX5_lay 21 rfl) (by decide) ?_
            refine lv_iload C.1 C.2.1 (dk_at dkX5_lay 22 rfl) (lv_at hl 0 rfl) ?_
            refine lv_isub C.1 C.2.1 (dk_at dkX5_lay 23 rfl) ?_
            refine lv_topi (fun x96 ex96 => ?_)
            have hf := nm_at ex96 hf
            cases hf
            exact fin _ _ _ _ _ (dk_at dkX5_lay 24 rfl) rfl w
        · have hf : _ := (((if_neg (by rw [hs]; decide)).trans (if_neg (by rw [hs]; decide))).trans (if_neg (by rw [hs]; decide))).symm.trans hf
          refine r_alds (b := a_s3 0) C hK w.1 4 rfl h57 (by rw [hs]; rfl) (dk_at dkX5_lay 14 rfl) ?_
          refine r_get (v := .int (sLa s3)) C hK w.1 (fun w h => List.mem_cons_of_mem _ (inlX4 w h)) 11 rfl rfl 1 (by decide) (List.mem_cons_of_mem _ (inr40 _ (List.mem_of_getElem? (i := 8) rfl))) rfl (dk_at dkX5_lay 15 rfl) ?_
          refine lv_iload_n C.1 C.2.1 (dk_at dkX5_lay 16 rfl) rfl (lv_at hl 2 rfl) ?_
          obtain ⟨r97, hq98, hf⟩ := bd1_at hf
          refine r_roV (As := [.int (sLa s3), .int p2]) (rest := []) C (kX4_flawAt l g a_s1 s1 (sLa s3) p2 r97 hq98) (cwV0 C (inr40 _ (List.mem_of_getElem? (i := 9) rfl)) mwX4_flawAt hdX4_flawAt ⟨Nat.le_of_ble_eq_true rfl, Nat.le_of_ble_eq_true rfl⟩) hK (w.1.sub [7, 8] rfl) rfl rfl rfl hl.1 rfl (Nat.le_of_ble_eq_true rfl) ⟨Nat.zero_le _, Nat.zero_le _⟩ (dk_at dkX5_lay 17 rfl) ?_
          refine lv_istore (lv' := [(4, .int r97), (0, .ref (a_v 0)), (1, .int p1), (2, .int p2), (3, .int p3)]) C.1 C.2.1 (dk_at dkX5_lay 18 rfl) hl (by decide) rfl (fun ls hl => ?_)
          refine lv_iload C.1 C.2.1 (dk_at dkX5_lay 19 rfl) (lv_at hl 0 rfl) ?_
          refine lv_if_eq (tgt := 43) C.1 C.2.1 (dk_at dkX5_lay 20 rfl) (by decide) (fun c99 => ?_) (fun c99 => ?_)
          · have hf := (if_pos c99).symm.trans hf
            refine lv_aload_n C.1 C.2.1 (dk_at dkX5_lay 25 rfl) rfl (lv_at hl 1 rfl) ?_
            refine r_get (v := .ref (a_v 4)) C hK w.1 (fun w h => List.mem_cons_of_mem _ (inlX5 w h)) 0 rfl rfl 7 (by decide) (List.mem_cons_of_mem _ (inr2 _ (List.mem_of_getElem? (i := 7) rfl))) rfl (dk_at dkX5_lay 26 rfl) ?_
            refine lv_iload_n C.1 C.2.1 (dk_at dkX5_lay 27 rfl) rfl (lv_at hl 2 rfl) ?_
            obtain ⟨h100, hf⟩ := gd_at hf
            rcases lt4 (in_lt h100) with hs | hs | hs | hs
            · have hf : _ := (if_pos hs).symm.trans hf
              refine r_alds (b := a_s0 0) C hK w.1 4 rfl h100 (by rw [hs]; rfl) (dk_at dkX5_lay 28 rfl) ?_
              refine lv_iload_n C.1 C.2.1 (dk_at dkX5_lay 29 rfl) rfl (lv_at hl 3 rfl) ?_
              refine lv_iload_n C.1 C.2.1 (dk_at dkX5_lay 30 rfl) rfl (lv_at hl 4 rfl) ?_
              obtain ⟨s0_101, hq102, hf⟩ := bd1_at hf
              refine r_rwv (As := [.int p2, .int p3]) (rest := []) (wr := wV g a_v a_rd a_nw a_tr a_da a_i0 a_i1 a_s0 a_s1 a_s2 a_s3 v ++ wS g a_s1 s1 ++ wS g a_s2 s2 ++ wS g a_s3 s3) (ws' := wV g a_v a_rd a_nw a_tr a_da a_i0 a_i1 a_s0 a_s1 a_s2 a_s3 v ++ wS g a_s0 s0_101 ++ wS g a_s1 s1 ++ wS g a_s2 s2 ++ wS g a_s3 s3) C (kX4_put l g _ a_s0 s0 p2 p3 s0_101 hq102) (cwV0 C (inr40 _ (List.mem_of_getElem? (i := 13) rfl)) mwX4_put hdX4_put ⟨Nat.le_of_ble_eq_true rfl, Nat.le_of_ble_eq_true rfl⟩) hK w hA [5, 6] [0, 1, 2, 3, 4, 7, 8, 9, 10, 11, 12] [0, 1, 2, 3, 4, 11, 12, 5, 6, 7, 8, 9, 10] (by decide) rfl rfl (by decide) (by decide) rfl (by decide) rfl rfl rfl hl.1 rfl (Nat.le_of_ble_eq_true rfl) ⟨Nat.zero_le _, Nat.zero_le _⟩ (dk_at dkX5_lay 31 rfl) (fun H locs w => ?_)
              refine lv_iconst (v := 1) C.1 C.2.1 (dk_at dkX5_lay 32 rfl) (by decide) ?_
              cases hf
              exact fin _ _ _ _ _ (dk_at dkX5_lay 33 rfl) rfl w
            · have hf : _ := ((if_neg (by rw [hs]; decide)).trans (if_pos hs)).symm.trans hf
              refine r_alds (b := a_s1 0) C hK w.1 4 rfl h100 (by rw [hs]; rfl) (dk_at dkX5_lay 28 rfl) ?_
              refine lv_iload_n C.1 C.2.1 (dk_at dkX5_lay 29 rfl) rfl (lv_at hl 3 rfl) ?_
              refine lv_iload_n C.1 C.2.1 (dk_at dkX5_lay 30 rfl) rfl (lv_at hl 4 rfl) ?_
              obtain ⟨s1_103, hq104, hf⟩ := bd1_at hf
              refine r_rwv (As := [.int p2, .int p3]) (rest := []) (wr := wV g a_v a_rd a_nw a_tr a_da a_i0 a_i1 a_s0 a_s1 a_s2 a_s3 v ++ wS g a_s0 s0 ++ wS g a_s2 s2 ++ wS g a_s3 s3) (ws' := wV g a_v a_rd a_nw a_tr a_da a_i0 a_i1 a_s0 a_s1 a_s2 a_s3 v ++ wS g a_s0 s0 ++ wS g a_s1 s1_103 ++ wS g a_s2 s2 ++ wS g a_s3 s3) C (kX4_put l g _ a_s1 s1 p2 p3 s1_103 hq104) (cwV0 C (inr40 _ (List.mem_of_getElem? (i := 13) rfl)) mwX4_put hdX4_put ⟨Nat.le_of_ble_eq_true rfl, Nat.le_of_ble_eq_true rfl⟩) hK w hA [7, 8] [0, 1, 2, 3, 4, 5, 6, 9, 10, 11, 12] [0, 1, 2, 3, 4, 5, 6, 11, 12, 7, 8, 9, 10] (by decide) rfl rfl (by decide) (by decide) rfl (by decide) rfl rfl rfl hl.1 rfl (Nat.le_of_ble_eq_true rfl) ⟨Nat.zero_le _, Nat.zero_le _⟩ (dk_at dkX5_lay 31 rfl) (fun H locs w => ?_)
              refine lv_iconst (v := 1) C.1 C.2.1 (dk_at dkX5_lay 32 rfl) (by decide) ?_
              cases hf
              exact fin _ _ _ _ _ (dk_at dkX5_lay 33 rfl) rfl w
            · have hf : _ := (((if_neg (by rw [hs]; decide)).trans (if_neg (by rw [hs]; decide))).trans (if_pos hs)).symm.trans hf
              refine r_alds (b := a_s2 0) C hK w.1 4 rfl h100 (by rw [hs]; rfl) (dk_at dkX5_lay 28 rfl) ?_
              refine lv_iload_n C.1 C.2.1 (dk_at dkX5_lay 29 rfl) rfl (lv_at hl 3 rfl) ?_
              refine lv_iload_n C.1 C.2.1 (dk_at dkX5_lay 30 rfl) rfl (lv_at hl 4 rfl) ?_
              obtain ⟨s2_105, hq106, hf⟩ := bd1_at hf
              refine r_rwv (As := [.int p2, .int p3]) (rest := []) (wr := wV g a_v a_rd a_nw a_tr a_da a_i0 a_i1 a_s0 a_s1 a_s2 a_s3 v ++ wS g a_s0 s0 ++ wS g a_s1 s1 ++ wS g a_s3 s3) (ws' := wV g a_v a_rd a_nw a_tr a_da a_i0 a_i1 a_s0 a_s1 a_s2 a_s3 v ++ wS g a_s0 s0 ++ wS g a_s1 s1 ++ wS g a_s2 s2_105 ++ wS g a_s3 s3) C (kX4_put l g _ a_s2 s2 p2 p3 s2_105 hq106) (cwV0 C (inr40 _ (List.mem_of_getElem? (i := 13) rfl)) mwX4_put hdX4_put ⟨Nat.le_of_ble_eq_true rfl, Nat.le_of_ble_eq_true rfl⟩) hK w hA [9, 10] [0, 1, 2, 3, 4, 5, 6, 7, 8, 11, 12] [0, 1, 2, 3, 4, 5, 6, 7, 8, 11, 12, 9, 10] (by decide) rfl rfl (by decide) (by decide) rfl (by decide) rfl rfl rfl hl.1 rfl (Nat.le_of_ble_eq_true rfl) ⟨Nat.zero_le _, Nat.zero_le _⟩ (dk_at dkX5_lay 31 rfl) (fun H locs w => ?_)
              refine lv_iconst (v := 1) C.1 C.2.1 (dk_at dkX5_lay 32 rfl) (by decide) ?_
              cases hf
              exact fin _ _ _ _ _ (dk_at dkX5_lay 33 rfl) rfl w
            · have hf : _ := (((if_neg (by rw [hs]; decide)).trans (if_neg (by rw [hs]; decide))).trans (if_neg (by rw [hs]; decide))).symm.trans hf
              refine r_alds (b := a_s3 0) C hK w.1 4 rfl h100 (by rw [hs]; rfl) (dk_at dkX5_lay 28 rfl) ?_
              refine lv_iload_n C.1 C.2.1 (dk_at dkX5_lay 29 rfl) rfl (lv_at hl 3 rfl) ?_
              refine lv_iload_n C.1 C.2.1 (dk_at dkX5_lay 30 rfl) rfl (lv_at hl 4 rfl) ?_
              obtain ⟨s3_107, hq108, hf⟩ := bd1_at hf
              refine r_rwv (As := [.int p2, .int p3]) (rest := []) (wr := wV g a_v a_rd a_nw a_tr a_da a_i0 a_i1 a_s0 a_s1 a_s2 a_s3 v ++ wS g a_s0 s0 ++ wS g a_s1 s1 ++ wS g a_s2 s2) (ws' := wV g a_v a_rd a_nw a_tr a_da a_i0 a_i1 a_s0 a_s1 a_s2 a_s3 v ++ wS g a_s0 s0 ++ wS g a_s1 s1 ++ wS g a_s2 s2 ++ wS g a_s3 s3_107) C (kX4_put l g _ a_s3 s3 p2 p3 s3_107 hq108) (cwV0 C (inr40 _ (List.mem_of_getElem? (i := 13) rfl)) mwX4_put hdX4_put ⟨Nat.le_of_ble_eq_true rfl, Nat.le_of_ble_eq_true rfl⟩) hK w hA [11, 12] [0, 1, 2, 3, 4, 5, 6, 7, 8, 9, 10] [0, 1, 2, 3, 4, 5, 6, 7, 8, 9, 10, 11, 12] (by decide) rfl rfl (by decide) (by decide) rfl (by decide) rfl rfl rfl hl.1 rfl (Nat.le_of_ble_eq_true rfl) ⟨Nat.zero_le _, Nat.zero_le _⟩ (dk_at dkX5_lay 31 rfl) (fun H locs w => ?_)
              refine lv_iconst (v := 1) C.1 C.2.1 (dk_at dkX5_lay 32 rfl) (by decide) ?_
              cases hf
              exact fin _ _ _ _ _ (dk_at dkX5_lay 33 rfl) rfl w
          · have hf := (if_neg c99).symm.trans hf
            refine lv_bipush (v := (-10)) C.1 C.2.1 (dk_at dkX5_lay 21 rfl) (by decide) ?_
            refine lv_iload C.1 C.2.1 (dk_at dkX5_lay 22 rfl) (lv_at hl 0 rfl) ?_
            refine lv_isub C.1 C.2.1 (dk_at dkX5_lay 23 rfl) ?_
            refine lv_topi (fun x109 ex109 => ?_)
            have hf := nm_at ex109 hf
            cases hf
            exact fin _ _ _ _ _ (dk_at dkX5_lay 24 rfl) rfl w
      · have hf : _ := (((if_neg (by rw [hs]; decide)).trans (if_neg (by rw [hs]; decide))).trans (if_pos hs)).symm.trans hf
        refine r_alds (b := a_s2 0) C hK w.1 4 rfl h3 (by rw [hs]; rfl) (dk_at dkX5_lay 10 rfl) ?_
        refine lv_aload_n C.1 C.2.1 (dk_at dkX5_lay 11 rfl) rfl (lv_at hl 0 rfl) ?_
        refine r_get (v := .ref (a_v 4)) C hK w.1 (fun w h => List.mem_cons_of_mem _ (inlX5 w h)) 0 rfl rfl 7 (by decide) (List.mem_cons_of_mem _ (inr2 _ (List.mem_of_getElem? (i := 7) rfl))) rfl (dk_at dkX5_lay 12 rfl) ?_
        refine lv_iload_n C.1 C.2.1 (dk_at dkX5_lay 13 rfl) rfl (lv_at hl 1 rfl) ?_
        obtain ⟨h110, hf⟩ := gd_at hf
        rcases lt4 (in_lt h110) with hs | hs | hs | hs
        · have hf : _ := (if_pos hs).symm.trans hf
          refine r_alds (b := a_s0 0) C hK w.1 4 rfl h110 (by rw [hs]; rfl) (dk_at dkX5_lay 14 rfl) ?_
          refine r_get (v := .int (sLa s0)) C hK w.1 (fun w h => List.mem_cons_of_mem _ (inlX4 w h)) 5 rfl rfl 1 (by decide) (List.mem_cons_of_mem _ (inr40 _ (List.mem_of_getElem? (i := 8) rfl))) rfl (dk_at dkX5_lay 15 rfl) ?_
          refine lv_iload_n C.1 C.2.1 (dk_at dkX5_lay 16 rfl) rfl (lv_at hl 2 rfl) ?_
          obtain ⟨r111, hq112, hf⟩ := bd1_at hf
          refine r_roV (As := [.int (sLa s0), .int p2]) (rest := []) C (kX4_flawAt l g a_s2 s2 (sLa s0) p2 r111 hq112) (cwV0 C (inr40 _ (List.mem_of_getElem? (i := 9) rfl)) mwX4_flawAt hdX4_flawAt ⟨Nat.le_of_ble_eq_true rfl, Nat.le_of_ble_eq_true rfl⟩) hK (w.1.sub [9, 10] rfl) rfl rfl rfl hl.1 rfl (Nat.le_of_ble_eq_true rfl) ⟨Nat.zero_le _, Nat.zero_le _⟩ (dk_at dkX5_lay 17 rfl) ?_
          refine lv_istore (lv' := [(4, .int r111), (0, .ref (a_v 0)), (1, .int p1), (2, .int p2), (3, .int p3)]) C.1 C.2.1 (dk_at dkX5_lay 18 rfl) hl (by decide) rfl (fun ls hl => ?_)
          refine lv_iload C.1 C.2.1 (dk_at dkX5_lay 19 rfl) (lv_at hl 0 rfl) ?_
          refine lv_if_eq (tgt := 43) C.1 C.2.1 (dk_at dkX5_lay 20 rfl) (by decide) (fun c113 => ?_) (fun c113 => ?_)
          · have hf := (if_pos c113).symm.trans hf
            refine lv_aload_n C.1 C.2.1 (dk_at dkX5_lay 25 rfl) rfl (lv_at hl 1 rfl) ?_
            refine r_get (v := .ref (a_v 4)) C hK w.1 (fun w h => List.mem_cons_of_mem _ (inlX5 w h)) 0 rfl rfl 7 (by decide) (List.mem_cons_of_mem _ (inr2 _ (List.mem_of_getElem? (i := 7) rfl))) rfl (dk_at dkX5_lay 26 rfl) ?_
            refine lv_iload_n C.1 C.2.1 (dk_at dkX5_lay 27 rfl) rfl (lv_at hl 2 rfl) ?_
            obtain ⟨h114, hf⟩ := gd_at hf
            rcases lt4 (in_lt h114) with hs | hs | hs | hs
            · have hf : _ := (if_pos hs).symm.trans hf
              refine r_alds (b := a_s0 0) C hK w.1 4 rfl h114 (by rw [hs]; rfl) (dk_at dkX5_lay 28 rfl) ?_
              refine lv_iload_n C.1 C.2.1 (dk_at dkX5_lay 29 rfl) rfl (lv_at hl 3 rfl) ?_
              refine lv_iload_n C.1 C.2.1 (dk_at dkX5_lay 30 rfl) rfl (lv_at hl 4 rfl) ?_
              obtain ⟨s0_115, hq116, hf⟩ := bd1_at hf
              refine r_rwv (As := [.int p2, .int p3]) (rest := []) (wr := wV g a_v a_rd a_nw a_tr a_da a_i0 a_i1 a_s0 a_s1 a_s2 a_s3 v ++ wS g a_s1 s1 ++ wS g a_s2 s2 ++ wS g a_s3 s3) (ws' := wV g a_v a_rd a_nw a_tr a_da a_i0 a_i1 a_s0 a_s1 a_s2 a_s3 v ++ wS g a_s0 s0_115 ++ wS g a_s1 s1 ++ wS g a_s2 s2 ++ wS g a_s3 s3) C (kX4_put l g _ a_s0 s0 p2 p3 s0_115 hq116) (cwV0 C (inr40 _ (List.mem_of_getElem? (i := 13) rfl)) mwX4_put hdX4_put ⟨Nat.le_of_ble_eq_true rfl, Nat.le_of_ble_eq_true rfl⟩) hK w hA [5, 6] [0, 1, 2, 3, 4, 7, 8, 9, 10, 11, 12] [0, 1, 2, 3, 4, 11, 12, 5, 6, 7, 8, 9, 10] (by decide) rfl rfl (by decide) (by decide) rfl (by decide) rfl rfl rfl hl.1 rfl (Nat.le_of_ble_eq_true rfl) ⟨Nat.zero_le _, Nat.zero_le _⟩ (dk_at dkX5_lay 31 rfl) (fun H locs w => ?_)
              refine lv_iconst (v := 1) C.1 C.2.1 (dk_at dkX5_lay 32 rfl) (by decide) ?_
              cases hf
              exact fin _ _ _ _ _ (dk_at dkX5_lay 33 rfl) rfl w
            · have hf : _ := ((if_neg (by rw [hs]; decide)).trans (if_pos hs)).symm.trans hf
              refine r_alds (b := a_s1 0) C hK w.1 4 rfl h114 (by rw [hs]; rfl) (dk_at dkX5_lay 28 rfl) ?_
              refine lv_iload_n C.1 C.2.1 (dk_at dkX5_lay 29 rfl) rfl (lv_at hl 3 rfl) ?_
              refine lv_iload_n C.1 C.2.1 (dk_at dkX5_lay 30 rfl) rfl (lv_at hl 4 rfl) ?_
              obtain ⟨s1_117, hq118, hf⟩ := bd1_at hf
              refine r_rwv (As := [.int p2, .int p3]) (rest := []) (wr := wV g a_v a_rd a_nw a_tr a_da a_i0 a_i1 a_s0 a_s1 a_s2 a_s3 v ++ wS g a_s0 s0 ++ wS g a_s2 s2 ++ wS g a_s3 s3) (ws' := wV g a_v a_rd a_nw a_tr a_da a_i0 a_i1 a_s0 a_s1 a_s2 a_s3 v ++ wS g a_s0 s0 ++ wS g a_s1 s1_117 ++ wS g a_s2 s2 ++ wS g a_s3 s3) C (kX4_put l g _ a_s1 s1 p2 p3 s1_117 hq118) (cwV0 C (inr40 _ (List.mem_of_getElem? (i := 13) rfl)) mwX4_put hdX4_put ⟨Nat.le_of_ble_eq_true rfl, Nat.le_of_ble_eq_true rfl⟩) hK w hA [7, 8] [0, 1, 2, 3, 4, 5, 6, 9, 10, 11, 12] [0, 1, 2, 3, 4, 5, 6, 11, 12, 7, 8, 9, 10] (by decide) rfl rfl (by decide) (by decide) rfl (by decide) rfl rfl rfl hl.1 rfl (Nat.le_of_ble_eq_true rfl) ⟨Nat.zero_le _, Nat.zero_le _⟩ (dk_at dkX5_lay 31 rfl) (fun H locs w => ?_)
              refine lv_iconst (v := 1) C.1 C.2.1 (dk_at dkX5_lay 32 rfl) (by decide) ?_
              cases hf
              exact fin _ _ _ _ _ (dk_at dkX5_lay 33 rfl) rfl w
            · have hf : _ := (((if_neg (by rw [hs]; decide)).trans (if_neg (by rw [hs]; decide))).trans (if_pos hs)).symm.trans hf
              refine r_alds (b := a_s2 0) C hK w.1 4 rfl h114 (by rw [hs]; rfl) (dk_at dkX5_lay 28 rfl) ?_
              refine lv_iload_n C.1 C.2.1 (dk_at dkX5_lay 29 rfl) rfl (lv_at hl 3 rfl) ?_
              refine lv_iload_n C.1 C.2.1 (dk_at dkX5_lay 30 rfl) rfl (lv_at hl 4 rfl) ?_
              obtain ⟨s2_119, hq120, hf⟩ := bd1_at hf
              refine r_rwv (As := [.int p2, .int p3]) (rest := []) (wr := wV g a_v a_rd a_nw a_tr a_da a_i0 a_i1 a_s0 a_s1 a_s2 a_s3 v ++ wS g a_s0 s0 ++ wS g a_s1 s1 ++ wS g a_s3 s3) (ws' := wV g a_v a_rd a_nw a_tr a_da a_i0 a_i1 a_s0 a_s1 a_s2 a_s3 v ++ wS g a_s0 s0 ++ wS g a_s1 s1 ++ wS g a_s2 s2_119 ++ wS g a_s3 s3) C (kX4_put l g _ a_s2 s2 p2 p3 s2_119 hq120) (cwV0 C (inr40 _ (List.mem_of_getElem? (i := 13) rfl)) mwX4_put hdX4_put ⟨Nat.le_of_ble_eq_true rfl, Nat.le_of_ble_eq_true rfl⟩) hK w hA [9, 10] [0, 1, 2, 3, 4, 5, 6, 7, 8, 11, 12] [0, 1, 2, 3, 4, 5, 6, 7, 8, 11, 12, 9, 10] (by decide) rfl rfl (by decide) (by decide) rfl (by decide) rfl rfl rfl hl.1 rfl (Nat.le_of_ble_eq_true rfl) ⟨Nat.zero_le _, Nat.zero_le _⟩ (dk_at dkX5_lay 31 rfl) (fun H locs w => ?_)
              refine lv_iconst (v := 1) C.1 C.2.1 (dk_at dkX5_lay 32 rfl) (by decide) ?_
              cases hf
              exact fin _ _ _ _ _ (dk_at dkX5_lay 33 rfl) rfl w
            · have hf : _ := (((if_neg (by rw [hs]; decide)).trans (if_neg (by rw [hs]; decide))).trans (if_neg (by rw [hs]; decide))).symm.trans hf
              refine r_alds (b := a_s3 0) C hK w.1 4 rfl h114 (by rw [hs]; rfl) (dk_at dkX5_lay 28 rfl) ?_
              refine lv_iload_n C.1 C.2.1 (dk_at dkX5_lay 29 rfl) rfl (lv_at hl 3 rfl) ?_
              refine lv_iload_n C.1 C.2.1 (dk_at dkX5_lay 30 rfl) rfl (lv_at hl 4 rfl) ?_
              obtain ⟨s3_121, hq122, hf⟩ := bd1_at hf
              refine r_rwv (As := [.int p2, .int p3]) (rest := []) (wr := wV g a_v a_rd a_nw a_tr a_da a_i0 a_i1 a_s0 a_s1 a_s2 a_s3 v ++ wS g a_s0 s0 ++ wS g a_s1 s1 ++ wS g a_s2 s2) (ws' := wV g a_v a_rd a_nw a_tr a_da a_i0 a_i1 a_s0 a_s1 a_s2 a_s3 v ++ wS g a_s0 s0 ++ wS g a_s1 s1 ++ wS g a_s2 s2 ++ wS g a_s3 s3_121) C (kX4_put l g _ a_s3 s3 p2 p3 s3_121 hq122) (cwV0 C (inr40 _ (List.mem_of_getElem? (i := 13) rfl)) mwX4_put hdX4_put ⟨Nat.le_of_ble_eq_true rfl, Nat.le_of_ble_eq_true rfl⟩) hK w hA [11, 12] [0, 1, 2, 3, 4, 5, 6, 7, 8, 9, 10] [0, 1, 2, 3, 4, 5, 6, 7, 8, 9, 10, 11, 12] (by decide) rfl rfl (by decide) (by decide) rfl (by decide) rfl rfl rfl hl.1 rfl (Nat.le_of_ble_eq_true rfl) ⟨Nat.zero_le _, Nat.zero_le _⟩ (dk_at dkX5_lay 31 rfl) (fun H locs w => ?_)
              refine lv_iconst (v := 1) C.1 C.2.1 (dk_at dkX5_lay 32 rfl) (by decide) ?_
              cases hf
              exact fin _ _ _ _ _ (dk_at dkX5_lay 33 rfl) rfl w
          · have hf := (if_neg c113).symm.trans hf
            refine lv_bipush (v := (-10)) C.1 C.2.1 (dk_at dkX5_lay 21 rfl) (by decide) ?_
            refine lv_iload C.1 C.2.1 (dk_at dkX5_lay 22 rfl) (lv_at hl 0 rfl) ?_
            refine lv_isub C.1 C.2.1 (dk_at dkX5_lay 23 rfl) ?_
            refine lv_topi (fun x123 ex123 => ?_)
            have hf := nm_at ex123 hf
            cases hf
            exact fin _ _ _ _ _ (dk_at dkX5_lay 24 rfl) rfl w
        · have hf : _ := ((if_neg (by rw [hs]; decide)).trans (if_pos hs)).symm.trans hf
          refine r_alds (b := a_s1 0) C hK w.1 4 rfl h110 (by rw [hs]; rfl) (dk_at dkX5_lay 14 rfl) ?_
          refine r_get (v := .int (sLa s1)) C hK w.1 (fun w h => List.mem_cons_of_mem _ (inlX4 w h)) 7 rfl rfl 1 (by decide) (List.mem_cons_of_mem _ (inr40 _ (List.mem_of_getElem? (i := 8) rfl))) rfl (dk_at dkX5_lay 15 rfl) ?_
          refine lv_iload_n C.1 C.2.1 (dk_at dkX5_lay 16 rfl) rfl (lv_at hl 2 rfl) ?_
          obtain ⟨r124, hq125, hf⟩ := bd1_at hf
          refine r_roV (As := [.int (sLa s1), .int p2]) (rest := []) C (kX4_flawAt l g a_s2 s2 (sLa s1) p2 r124 hq125) (cwV0 C (inr40 _ (List.mem_of_getElem? (i := 9) rfl)) mwX4_flawAt hdX4_flawAt ⟨Nat.le_of_ble_eq_true rfl, Nat.le_of_ble_eq_true rfl⟩) hK (w.1.sub [9, 10] rfl) rfl rfl rfl hl.1 rfl (Nat.le_of_ble_eq_true rfl) ⟨Nat.zero_le _, Nat.zero_le _⟩ (dk_at dkX5_lay 17 rfl) ?_
          refine lv_istore (lv' := [(4, .int r124), (0, .ref (a_v 0)), (1, .int p1), (2, .int p2), (3, .int p3)]) C.1 C.2.1 (dk_at dkX5_lay 18 rfl) hl (by decide) rfl (fun ls hl => ?_)
          refine lv_iload C.1 C.2.1 (dk_at dkX5_lay 19 rfl) (lv_at hl 0 rfl) ?_
          refine lv_if_eq (tgt := 43) C.1 C.2.1 (dk_at dkX5_lay 20 rfl) (by decide) (fun c126 => ?_) (fun c126 => ?_)
          · have hf := (if_pos c126).symm.trans hf
            refine lv_aload_n C.1 C.2.1 (dk_at dkX5_lay 25 rfl) rfl (lv_at hl 1 rfl) ?_
            refine r_get (v := .ref (a_v 4)) C hK w.1 (fun w h => List.mem_cons_of_mem _ (inlX5 w h)) 0 rfl rfl 7 (by decide) (List.mem_cons_of_mem _ (inr2 _ (List.mem_of_getElem? (i := 7) rfl))) rfl (dk_at dkX5_lay 26 rfl) ?_
            refine lv_iload_n C.1 C.2.1 (dk_at dkX5_lay 27 rfl) rfl (lv_at hl 2 rfl) ?_
            obtain ⟨h127, hf⟩ := gd_at hf
            rcases lt4 (in_lt h127) with hs | hs | hs | hs
            · have hf : _ := (if_pos hs).symm.trans hf
              refine r_alds (b := a_s0 0) C hK w.1 4 rfl h127 (by rw [hs]; rfl) (dk_at dkX5_lay 28 rfl) ?_
              refine lv_iload_n C.1 C.2.1 (dk_at dkX5_lay 29 rfl) rfl (lv_at hl 3 rfl) ?_
              refine lv_iload_n C.1 C.2.1 (dk_at dkX5_lay 30 rfl) rfl (lv_at hl 4 rfl) ?_
              obtain ⟨s0_128, hq129, hf⟩ := bd1_at hf
              refine r_rwv (As := [.int p2, .int p3]) (rest := []) (wr := wV g a_v a_rd a_nw a_tr a_da a_i0 a_i1 a_s0 a_s1 a_s2 a_s3 v ++ wS g a_s1 s1 ++ wS g a_s2 s2 ++ wS g a_s3 s3) (ws' := wV g a_v a_rd a_nw a_tr a_da a_i0 a_i1 a_s0 a_s1 a_s2 a_s3 v ++ wS g a_s0 s0_128 ++ wS g a_s1 s1 ++ wS g a_s2 s2 ++ wS g a_s3 s3) C (kX4_put l g _ a_s0 s0 p2 p3 s0_128 hq129) (cwV0 C (inr40 _ (List.mem_of_getElem? (i := 13) rfl)) mwX4_put hdX4_put ⟨Nat.le_of_ble_eq_true rfl, Nat.le_of_ble_eq_true rfl⟩) hK w hA [5, 6] [0, 1, 2, 3, 4, 7, 8, 9, 10, 11, 12] [0, 1, 2, 3, 4, 11, 12, 5, 6, 7, 8, 9, 10] (by decide) rfl rfl (by decide) (by decide) rfl (by decide) rfl rfl rfl hl.1 rfl (Nat.le_of_ble_eq_true rfl) ⟨Nat.zero_le _, Nat.zero_le _⟩ (dk_at dkX5_lay 31 rfl) (fun H locs w => ?_)
              refine lv_iconst (v := 1) C.1 C.2.1 (dk_at dkX5_lay 32 rfl) (by decide) ?_
              cases hf
              exact fin _ _ _ _ _ (dk_at dkX5_lay 33 rfl) rfl w
            · have hf : _ := ((if_neg (by rw [hs]; decide)).trans (if_pos hs)).symm.trans hf
              refine r_alds (b := a_s1 0) C hK w.1 4 rfl h127 (by rw [hs]; rfl) (dk_at dkX5_lay 28 rfl) ?_
              refine lv_iload_n C.1 C.2.1 (dk_at dkX5_lay 29 rfl) rfl (lv_at hl 3 rfl) ?_
              refine lv_iload_n C.1 C.2.1 (dk_at dkX5_lay 30 rfl) rfl (lv_at hl 4 rfl) ?_
              obtain ⟨s1_130, hq131, hf⟩ := bd1_at hf
              refine r_rwv (As := [.int p2, .int p3]) (rest := []) (wr := wV g a_v a_rd a_nw a_tr a_da a_i0 a_i1 a_s0 a_s1 a_s2 a_s3 v ++ wS g a_s0 s0 ++ wS g a_s2 s2 ++ wS g a_s3 s3) (ws' := wV g a_v a_rd a_nw a_tr a_da a_i0 a_i1 a_s0 a_s1 a_s2 a_s3 v ++ wS g a_s0 s0 ++ wS g a_s1 s1_130 ++ wS g a_s2 s2 ++ wS g a_s3 s3) C (kX4_put l g _ a_s1 s1 p2 p3 s1_130 hq131) (cwV0 C (inr40 _ (List.mem_of_getElem? (i := 13) rfl)) mwX4_put hdX4_put ⟨Nat.le_of_ble_eq_true rfl, Nat.le_of_ble_eq_true rfl⟩) hK w hA [7, 8] [0, 1, 2, 3, 4, 5, 6, 9, 10, 11, 12] [0, 1, 2, 3, 4, 5, 6, 11, 12, 7, 8, 9, 10] (by decide) rfl rfl (by decide) (by decide) rfl (by decide) rfl rfl rfl hl.1 rfl (Nat.le_of_ble_eq_true rfl) ⟨Nat.zero_le _, Nat.zero_le _⟩ (dk_at dkX5_lay 31 rfl) (fun H locs w => ?_)
              refine lv_iconst (v := 1) C.1 C.2.1 (dk_at dkX5_lay 32 rfl) (by decide) ?_
              cases hf
              exact fin _ _ _ _ _ (dk_at dkX5_lay 33 rfl) rfl w
            · have hf : _ := (((if_neg (by rw [hs]; decide)).trans (if_neg (by rw [hs]; decide))).trans (if_pos hs)).symm.trans hf
              refine r_alds (b := a_s2 0) C hK w.1 4 rfl h127 (by rw [hs]; rfl) (dk_at dkX5_lay 28 rfl) ?_
              refine lv_iload_n C.1 C.2.1 (dk_at dkX5_lay 29 rfl) rfl (lv_at hl 3 rfl) ?_
              refine lv_iload_n C.1 C.2.1 (dk_at dkX5_lay 30 rfl) rfl (lv_at hl 4 rfl) ?_
              obtain ⟨s2_132, hq133, hf⟩ := bd1_at hf
              refine r_rwv (As := [.int p2, .int p3]) (rest := []) (wr := wV g a_v a_rd a_nw a_tr a_da a_i0 a_i1 a_s0 a_s1 a_s2 a_s3 v ++ wS g a_s0 s0 ++ wS g a_s1 s1 ++ wS g a_s3 s3) (ws' := wV g a_v a_rd a_nw a_tr a_da a_i0 a_i1 a_s0 a_s1 a_s2 a_s3 v ++ wS g a_s0 s0 ++ wS g a_s1 s1 ++ wS g a_s2 s2_132 ++ wS g a_s3 s3) C (kX4_put l g _ a_s2 s2 p2 p3 s2_132 hq133) (cwV0 C (inr40 _ (List.mem_of_getElem? (i := 13) rfl)) mwX4_put hdX4_put ⟨Nat.le_of_ble_eq_true rfl, Nat.le_of_ble_eq_true rfl⟩) hK w hA [9, 10] [0, 1, 2, 3, 4, 5, 6, 7, 8, 11, 12] [0, 1, 2, 3, 4, 5, 6, 7, 8, 11, 12, 9, 10] (by decide) rfl rfl (by decide) (by decide) rfl (by decide) rfl rfl rfl hl.1 rfl (Nat.le_of_ble_eq_true rfl) ⟨Nat.zero_le _, Nat.zero_le _⟩ (dk_at dkX5_lay 31 rfl) (fun H locs w => ?_)
              refine lv_iconst (v := 1) C.1 C.2.1 (dk_at dkX5_lay 32 rfl) (by decide) ?_
              cases hf
              exact fin _ _ _ _ _ (dk_at dkX5_lay 33 rfl) rfl w
            · have hf : _ := (((if_neg (by rw [hs]; decide)).trans (if_neg (by rw [hs]; decide))).trans (if_neg (by rw [hs]; decide))).symm.trans hf
              refine r_alds (b := a_s3 0) C hK w.1 4 rfl h127 (by rw [hs]; rfl) (dk_at dkX5_lay 28 rfl) ?_
              refine lv_iload_n C.1 C.2.1 (dk_at dkX5_lay 29 rfl) rfl (lv_at hl 3 rfl) ?_
              refine lv_iload_n C.1 C.2.1 (dk_at dkX5_lay 30 rfl) rfl (lv_at hl 4 rfl) ?_
              obtain ⟨s3_134, hq135, hf⟩ := bd1_at hf
              refine r_rwv (As := [.int p2, .int p3]) (rest := []) (wr := wV g a_v a_rd a_nw a_tr a_da a_i0 a_i1 a_s0 a_s1 a_s2 a_s3 v ++ wS g a_s0 s0 ++ wS g a_s1 s1 ++ wS g a_s2 s2) (ws' := wV g a_v a_rd a_nw a_tr a_da a_i0 a_i1 a_s0 a_s1 a_s2 a_s3 v ++ wS g a_s0 s0 ++ wS g a_s1 s1 ++ wS g a_s2 s2 ++ wS g a_s3 s3_134) C (kX4_put l g _ a_s3 s3 p2 p3 s3_134 hq135) (cwV0 C (inr40 _ (List.mem_of_getElem? (i := 13) rfl)) mwX4_put hdX4_put ⟨Nat.le_of_ble_eq_true rfl, Nat.le_of_ble_eq_true rfl⟩) hK w hA [11, 12] [0, 1, 2, 3, 4, 5, 6, 7, 8, 9, 10] [0, 1, 2, 3, 4, 5, 6, 7, 8, 9, 10, 11, 12] (by decide) rfl rfl (by decide) (by decide) rfl (by decide) rfl rfl rfl hl.1 rfl (Nat.le_of_ble_eq_true rfl) ⟨Nat.zero_le _, Nat.zero_le _⟩ (dk_at dkX5_lay 31 rfl) (fun H locs w => ?_)
              refine lv_iconst (v := 1) C.1 C.2.1 (dk_at dkX5_lay 32 rfl) (by decide) ?_
              cases hf
              exact fin _ _ _ _ _ (dk_at dkX5_lay 33 rfl) rfl w
          · have hf := (if_neg c126).symm.trans hf
            refine lv_bipush (v := (-10)) C.1 C.2.1 (dk_at dkX5_lay 21 rfl) (by decide) ?_
            refine lv_iload C.1 C.2.1 (dk_at dkX5_lay 22 rfl) (lv_at hl 0 rfl) ?_
            refine lv_isub C.1 C.2.1 (dk_at dkX5_lay 23 rfl) ?_
            refine lv_topi (fun x136 ex136 => ?_)
            have hf := nm_at ex136 hf
            cases hf
            exact fin _ _ _ _ _ (dk_at dkX5_lay 24 rfl) rfl w
        · have hf : _ := (((if_neg (by rw [hs]; decide)).trans (if_neg (by rw [hs]; decide))).trans (if_pos hs)).symm.trans hf
          refine r_alds (b := a_s2 0) C hK w.1 4 rfl h110 (by rw [hs]; rfl) (dk_at dkX5_lay 14 rfl) ?_
          refine r_get (v := .int (sLa s2)) C hK w.1 (fun w h => List.mem_cons_of_mem _ (inlX4 w h)) 9 rfl rfl 1 (by decide) (List.mem_cons_of_mem _ (inr40 _ (List.mem_of_getElem? (i := 8) rfl))) rfl (dk_at dkX5_lay 15 rfl) ?_
          refine lv_iload_n C.1 C.2.1 (dk_at dkX5_lay 16 rfl) rfl (lv_at hl 2 rfl) ?_
          obtain ⟨r137, hq138, hf⟩ := bd1_at hf
          refine r_roV (As := [.int (sLa s2), .int p2]) (rest := []) C (kX4_flawAt l g a_s2 s2 (sLa s2) p2 r137 hq138) (cwV0 C (inr40 _ (List.mem_of_getElem? (i := 9) rfl)) mwX4_flawAt hdX4_flawAt ⟨Nat.le_of_ble_eq_true rfl, Nat.le_of_ble_eq_true rfl⟩) hK (w.1.sub [9, 10] rfl) rfl rfl rfl hl.1 rfl (Nat.le_of_ble_eq_true rfl) ⟨Nat.zero_le _, Nat.zero_le _⟩ (dk_at dkX5_lay 17 rfl) ?_
          refine lv_istore (lv' := [(4, .int r137), (0, .ref (a_v 0)), (1, .int p1), (2, .int p2), (3, .int p3)]) C.1 C.2.1 (dk_at dkX5_lay 18 rfl) hl (by decide) rfl (fun ls hl => ?_)
          refine lv_iload C.1 C.2.1 (dk_at dkX5_lay 19 rfl) (lv_at hl 0 rfl) ?_
          refine lv_if_eq (tgt := 43) C.1 C.2.1 (dk_at dkX5_lay 20 rfl) (by decide) (fun c139 => ?_) (fun c139 => ?_)
          · have hf := (if_pos c139).symm.trans hf
            refine lv_aload_n C.1 C.2.1 (dk_at dkX5_lay 25 rfl) rfl (lv_at hl 1 rfl) ?_
            refine r_get (v := .ref (a_v 4)) C hK w.1 (fun w h => List.mem_cons_of_mem _ (inlX5 w h)) 0 rfl rfl 7 (by decide) (List.mem_cons_of_mem _ (inr2 _ (List.mem_of_getElem? (i := 7) rfl))) rfl (dk_at dkX5_lay 26 rfl) ?_
            refine lv_iload_n C.1 C.2.1 (dk_at dkX5_lay 27 rfl) rfl (lv_at hl 2 rfl) ?_
            obtain ⟨h140, hf⟩ := gd_at hf
            rcases lt4 (in_lt h140) with hs | hs | hs | hs
            · have hf : _ := (if_pos hs).symm.trans hf
              refine r_alds (b := a_s0 0) C hK w.1 4 rfl h140 (by rw [hs]; rfl) (dk_at dkX5_lay 28 rfl) ?_
              refine lv_iload_n C.1 C.2.1 (dk_at dkX5_lay 29 rfl) rfl (lv_at hl 3 rfl) ?_
              refine lv_iload_n C.1 C.2.1 (dk_at dkX5_lay 30 rfl) rfl (lv_at hl 4 rfl) ?_
              obtain ⟨s0_141, hq142, hf⟩ := bd1_at hf
              refine r_rwv (As := [.int p2, .int p3]) (rest := []) (wr := wV g a_v a_rd a_nw a_tr a_da a_i0 a_i1 a_s0 a_s1 a_s2 a_s3 v ++ wS g a_s1 s1 ++ wS g a_s2 s2 ++ wS g a_s3 s3) (ws' := wV g a_v a_rd a_nw a_tr a_da a_i0 a_i1 a_s0 a_s1 a_s2 a_s3 v ++ wS g a_s0 s0_141 ++ wS g a_s1 s1 ++ wS g a_s2 s2 ++ wS g a_s3 s3) C (kX4_put l g _ a_s0 s0 p2 p3 s0_141 hq142) (cwV0 C (inr40 _ (List.mem_of_getElem? (i := 13) rfl)) mwX4_put hdX4_put ⟨Nat.le_of_ble_eq_true rfl, Nat.le_of_ble_eq_true rfl⟩) hK w hA [5, 6] [0, 1, 2, 3, 4, 7, 8, 9, 10, 11, 12] [0, 1, 2, 3, 4, 11, 12, 5, 6, 7, 8, 9, 10] (by decide) rfl rfl (by decide) (by decide) rfl (by decide) rfl rfl rfl hl.1 rfl (Nat.le_of_ble_eq_true rfl) ⟨Nat.zero_le _, Nat.zero_le _⟩ (dk_at dkX5_lay 31 rfl) (fun H locs w => ?_)
              refine lv_iconst (v := 1) C.1 C.2.1 (dk_at dkX5_lay 32 rfl) (by decide) ?_
              cases hf
              exact fin _ _ _ _ _ (dk_at dkX5_lay 33 rfl) rfl w
            · have hf : _ := ((if_neg (by rw [hs]; decide)).trans (if_pos hs)).symm.trans hf
              refine r_alds (b := a_s1 0) C hK w.1 4 rfl h140 (by rw [hs]; rfl) (dk_at dkX5_lay 28 rfl) ?_
              refine lv_iload_n C.1 C.2.1 (dk_at dkX5_lay 29 rfl) rfl (lv_at hl 3 rfl) ?_
              refine lv_iload_n C.1 C.2.1 (dk_at dkX5_lay 30 rfl) rfl (lv_at hl 4 rfl) ?_
              obtain ⟨s1_143, hq144, hf⟩ := bd1_at hf
              refine r_rwv (As := [.int p2, .int p3]) (rest := []) (wr := wV g a_v a_rd a_nw a_tr a_da a_i0 a_i1 a_s0 a_s1 a_s2 a_s3 v ++ wS g a_s0 s0 ++ wS g a_s2 s2 ++ wS g a_s3 s3) (ws' := wV g a_v a_rd a_nw a_tr a_da a_i0 a_i1 a_s0 a_s1 a_s2 a_s3 v ++ wS g a_s0 s0 ++ wS g a_s1 s1_143 ++ wS g a_s2 s2 ++ wS g a_s3 s3) C (kX4_put l g _ a_s1 s1 p2 p3 s1_143 hq144) (cwV0 C (inr40 _ (List.mem_of_getElem? (i := 13) rfl)) mwX4_put hdX4_put ⟨Nat.le_of_ble_eq_true rfl, Nat.le_of_ble_eq_true rfl⟩) hK w hA [7, 8] [0, 1, 2, 3, 4, 5, 6, 9, 10, 11, 12] [0, 1, 2, 3, 4, 5, 6, 11, 12, 7, 8, 9, 10] (by decide) rfl rfl (by decide) (by decide) rfl (by decide) rfl rfl rfl hl.1 rfl (Nat.le_of_ble_eq_true rfl) ⟨Nat.zero_le _, Nat.zero_le _⟩ (dk_at dkX5_lay 31 rfl) (fun H locs w => ?_)
              refine lv_iconst (v := 1) C.1 C.2.1 (dk_at dkX5_lay 32 rfl) (by decide) ?_
              cases hf
              exact fin _ _ _ _ _ (dk_at dkX5_lay 33 rfl) rfl w
            · have hf : _ := (((if_neg (by rw [hs]; decide)).trans (if_neg (by rw [hs]; decide))).trans (if_pos hs)).symm.trans hf
              refine r_alds (b := a_s2 0) C hK w.1 4 rfl h140 (by rw [hs]; rfl) (dk_at dkX5_lay 28 rfl) ?_
              refine lv_iload_n C.1 C.2.1 (dk_at dkX5_lay 29 rfl) rfl (lv_at hl 3 rfl) ?_
              refine lv_iload_n C.1 C.2.1 (dk_at dkX5_lay 30 rfl) rfl (lv_at hl 4 rfl) ?_
              obtain ⟨s2_145, hq146, hf⟩ := bd1_at hf
              refine r_rwv (As := [.int p2, .int p3]) (rest := []) (wr := wV g a_v a_rd a_nw a_tr a_da a_i0 a_i1 a_s0 a_s1 a_s2 a_s3 v ++ wS g a_s0 s0 ++ wS g a_s1 s1 ++ wS g a_s3 s3) (ws' := wV g a_v a_rd a_nw a_tr a_da a_i0 a_i1 a_s0 a_s1 a_s2 a_s3 v ++ wS g a_s0 s0 ++ wS g a_s1 s1 ++ wS g a_s2 s2_145 ++ wS g a_s3 s3) C (kX4_put l g _ a_s2 s2 p2 p3 s2_145 hq146) (cwV0 C (inr40 _ (List.mem_of_getElem? (i := 13) rfl)) mwX4_put hdX4_put ⟨Nat.le_of_ble_eq_true rfl, Nat.le_of_ble_eq_true rfl⟩) hK w hA [9, 10] [0, 1, 2, 3, 4, 5, 6, 7, 8, 11, 12] [0, 1, 2, 3, 4, 5, 6, 7, 8, 11, 12, 9, 10] (by decide) rfl rfl (by decide) (by decide) rfl (by decide) rfl rfl rfl hl.1 rfl (Nat.le_of_ble_eq_true rfl) ⟨Nat.zero_le _, Nat.zero_le _⟩ (dk_at dkX5_lay 31 rfl) (fun H locs w => ?_)
              refine lv_iconst (v := 1) C.1 C.2.1 (dk_at dkX5_lay 32 rfl) (by decide) ?_
              cases hf
              exact fin _ _ _ _ _ (dk_at dkX5_lay 33 rfl) rfl w
            · have hf : _ := (((if_neg (by rw [hs]; decide)).trans (if_neg (by rw [hs]; decide))).trans (if_neg (by rw [hs]; decide))).symm.trans hf
              refine r_alds (b := a_s3 0) C hK w.1 4 rfl h140 (by rw [hs]; rfl) (dk_at dkX5_lay 28 rfl) ?_
              refine lv_iload_n C.1 C.2.1 (dk_at dkX5_lay 29 rfl) rfl (lv_at hl 3 rfl) ?_
              refine lv_iload_n C.1 C.2.1 (dk_at dkX5_lay 30 rfl) rfl (lv_at hl 4 rfl) ?_
              obtain ⟨s3_147, hq148, hf⟩ := bd1_at hf
              refine r_rwv (As := [.int p2, .int p3]) (rest := []) (wr := wV g a_v a_rd a_nw a_tr a_da a_i0 a_i1 a_s0 a_s1 a_s2 a_s3 v ++ wS g a_s0 s0 ++ wS g a_s1 s1 ++ wS g a_s2 s2) (ws' := wV g a_v a_rd a_nw a_tr a_da a_i0 a_i1 a_s0 a_s1 a_s2 a_s3 v ++ wS g a_s0 s0 ++ wS g a_s1 s1 ++ wS g a_s2 s2 ++ wS g a_s3 s3_147) C (kX4_put l g _ a_s3 s3 p2 p3 s3_147 hq148) (cwV0 C (inr40 _ (List.mem_of_getElem? (i := 13) rfl)) mwX4_put hdX4_put ⟨Nat.le_of_ble_eq_true rfl, Nat.le_of_ble_eq_true rfl⟩) hK w hA [11, 12] [0, 1, 2, 3, 4, 5, 6, 7, 8, 9, 10] [0, 1, 2, 3, 4, 5, 6, 7, 8, 9, 10, 11, 12] (by decide) rfl rfl (by decide) (by decide) rfl (by decide) rfl rfl rfl hl.1 rfl (Nat.le_of_ble_eq_true rfl) ⟨Nat.zero_le _, Nat.zero_le _⟩ (dk_at dkX5_lay 31 rfl) (fun H locs w => ?_)
              refine lv_iconst (v := 1) C.1 C.2.1 (dk_at dkX5_lay 32 rfl) (by decide) ?_
              cases hf
              exact fin _ _ _ _ _ (dk_at dkX5_lay 33 rfl) rfl w
          · have hf := (if_neg c139).symm.trans hf
            refine lv_bipush (v := (-10)) C.1 C.2.1 (dk_at dkX5_lay 21 rfl) (by decide) ?_
            refine lv_iload C.1 C.2.1 (dk_at dkX5_lay 22 rfl) (lv_at hl 0 rfl) ?_
            refine lv_isub C.1 C.2.1 (dk_at dkX5_lay 23 rfl) ?_
            refine lv_topi (fun x149 ex149 => ?_)
            have hf := nm_at ex149 hf
            cases hf
            exact fin _ _ _ _ _ (dk_at dkX5_lay 24 rfl) rfl w
        · have hf : _ := (((if_neg (by rw [hs]; decide)).trans (if_neg (by rw [hs]; decide))).trans (if_neg (by rw [hs]; decide))).symm.trans hf
          refine r_alds (b := a_s3 0) C hK w.1 4 rfl h110 (by rw [hs]; rfl) (dk_at dkX5_lay 14 rfl) ?_
          refine r_get (v := .int (sLa s3)) C hK w.1 (fun w h => List.mem_cons_of_mem _ (inlX4 w h)) 11 rfl rfl 1 (by decide) (List.mem_cons_of_mem _ (inr40 _ (List.mem_of_getElem? (i := 8) rfl))) rfl (dk_at dkX5_lay 15 rfl) ?_
          refine lv_iload_n C.1 C.2.1 (dk_at dkX5_lay 16 rfl) rfl (lv_at hl 2 rfl) ?_
          obtain ⟨r150, hq151, hf⟩ := bd1_at hf
          refine r_roV (As := [.int (sLa s3), .int p2]) (rest := []) C (kX4_flawAt l g a_s2 s2 (sLa s3) p2 r150 hq151) (cwV0 C (inr40 _ (List.mem_of_getElem? (i := 9) rfl)) mwX4_flawAt hdX4_flawAt ⟨Nat.le_of_ble_eq_true rfl, Nat.le_of_ble_eq_true rfl⟩) hK (w.1.sub [9, 10] rfl) rfl rfl rfl hl.1 rfl (Nat.le_of_ble_eq_true rfl) ⟨Nat.zero_le _, Nat.zero_le _⟩ (dk_at dkX5_lay 17 rfl) ?_
          refine lv_istore (lv' := [(4, .int r150), (0, .ref (a_v 0)), (1, .int p1), (2, .int p2), (3, .int p3)]) C.1 C.2.1 (dk_at dkX5_lay 18 rfl) hl (by decide) rfl (fun ls hl => ?_)
          refine lv_iload C.1 C.2.1 (dk_at dkX5_lay 19 rfl) (lv_at hl 0 rfl) ?_
          refine lv_if_eq (tgt := 43) C.1 C.2.1 (dk_at dkX5_lay 20 rfl) (by decide) (fun c152 => ?_) (fun c152 => ?_)
          · have hf := (if_pos c152).symm.trans hf
            refine lv_aload_n C.1 C.2.1 (dk_at dkX5_lay 25 rfl) rfl (lv_at hl 1 rfl) ?_
            refine r_get (v := .ref (a_v 4)) C hK w.1 (fun w h => List.mem_cons_of_mem _ (inlX5 w h)) 0 rfl rfl 7 (by decide) (List.mem_cons_of_mem _ (inr2 _ (List.mem_of_getElem? (i := 7) rfl))) rfl (dk_at dkX5_lay 26 rfl) ?_
            refine lv_iload_n C.1 C.2.1 (dk_at dkX5_lay 27 rfl) rfl (lv_at hl 2 rfl) ?_
            obtain ⟨h153, hf⟩ := gd_at hf
            rcases lt4 (in_lt h153) with hs | hs | hs | hs
            · have hf : _ := (if_pos hs).symm.trans hf
              refine r_alds (b := a_s0 0) C hK w.1 4 rfl h153 (by rw [hs]; rfl) (dk_at dkX5_lay 28 rfl) ?_
              refine lv_iload_n C.1 C.2.1 (dk_at dkX5_lay 29 rfl) rfl (lv_at hl 3 rfl) ?_
              refine lv_iload_n C.1 C.2.1 (dk_at dkX5_lay 30 rfl) rfl (lv_at hl 4 rfl) ?_
              obtain ⟨s0_154, hq155, hf⟩ := bd1_at hf
              refine r_rwv (As := [.int p2, .int p3]) (rest := []) (wr := wV g a_v a_rd a_nw a_tr a_da a_i0 a_i1 a_s0 a_s1 a_s2 a_s3 v ++ wS g a_s1 s1 ++ wS g a_s2 s2 ++ wS g a_s3 s3) (ws' := wV g a_v a_rd a_nw a_tr a_da a_i0 a_i1 a_s0 a_s1 a_s2 a_s3 v ++ wS g a_s0 s0_154 ++ wS g a_s1 s1 ++ wS g a_s2 s2 ++ wS g a_s3 s3) C (kX4_put l g _ a_s0 s0 p2 p3 s0_154 hq155) (cwV0 C (inr40 _ (List.mem_of_getElem? (i := 13) rfl)) mwX4_put hdX4_put ⟨Nat.le_of_ble_eq_true rfl, Nat.le_of_ble_eq_true rfl⟩) hK w hA [5, 6] [0, 1, 2, 3, 4, 7, 8, 9, 10, 11, 12] [0, 1, 2, 3, 4, 11, 12, 5, 6, 7, 8, 9, 10] (by decide) rfl rfl (by decide) (by decide) rfl (by decide) rfl rfl rfl hl.1 rfl (Nat.le_of_ble_eq_true rfl) ⟨Nat.zero_le _, Nat.zero_le _⟩ (dk_at dkX5_lay 31 rfl) (fun H locs w => ?_)
              refine lv_iconst (v := 1) C.1 C.2.1 (dk_at dkX5_lay 32 rfl) (by decide) ?_
              cases hf
              exact fin _ _ _ _ _ (dk_at dkX5_lay 33 rfl) rfl w
            · have hf : _ := ((if_neg (by rw [hs]; decide)).trans (if_pos hs)).symm.trans hf
              refine r_alds (b := a_s1 0) C hK w.1 4 rfl h153 (by rw [hs]; rfl) (dk_at dkX5_lay 28 rfl) ?_
              refine lv_iload_n C.1 C.2.1 (dk_at dkX5_lay 29 rfl) rfl (lv_at hl 3 rfl) ?_
              refine lv_iload_n C.1 C.2.1 (dk_at dkX5_lay 30 rfl) rfl (lv_at hl 4 rfl) ?_
              obtain ⟨s1_156, hq157, hf⟩ := bd1_at hf
              refine r_rwv (As := [.int p2, .int p3]) (rest := []) (wr := wV g a_v a_rd a_nw a_tr a_da a_i0 a_i1 a_s0 a_s1 a_s2 a_s3 v ++ wS g a_s0 s0 ++ wS g a_s2 s2 ++ wS g a_s3 s3) (ws' := wV g a_v a_rd a_nw a_tr a_da a_i0 a_i1 a_s0 a_s1 a_s2 a_s3 v ++ wS g a_s0 s0 ++ wS g a_s1 s1_156 ++ wS g a_s2 s2 ++ wS g a_s3 s3) C (kX4_put l g _ a_s1 s1 p2 p3 s1_156 hq157) (cwV0 C (inr40 _ (List.mem_of_getElem? (i := 13) rfl)) mwX4_put hdX4_put ⟨Nat.le_of_ble_eq_true rfl, Nat.le_of_ble_eq_true rfl⟩) hK w hA [7, 8] [0, 1, 2, 3, 4, 5, 6, 9, 10, 11, 12] [0, 1, 2, 3, 4, 5, 6, 11, 12, 7, 8, 9, 10] (by decide) rfl rfl (by decide) (by decide) rfl (by decide) rfl rfl rfl hl.1 rfl (Nat.le_of_ble_eq_true rfl) ⟨Nat.zero_le _, Nat.zero_le _⟩ (dk_at dkX5_lay 31 rfl) (fun H locs w => ?_)
              refine lv_iconst (v := 1) C.1 C.2.1 (dk_at dkX5_lay 32 rfl) (by decide) ?_
              cases hf
              exact fin _ _ _ _ _ (dk_at dkX5_lay 33 rfl) rfl w
            · have hf : _ := (((if_neg (by rw [hs]; decide)).trans (if_neg (by rw [hs]; decide))).trans (if_pos hs)).symm.trans hf
              refine r_alds (b := a_s2 0) C hK w.1 4 rfl h153 (by rw [hs]; rfl) (dk_at dkX5_lay 28 rfl) ?_
              refine lv_iload_n C.1 C.2.1 (dk_at dkX5_lay 29 rfl) rfl (lv_at hl 3 rfl) ?_
              refine lv_iload_n C.1 C.2.1 (dk_at dkX5_lay 30 rfl) rfl (lv_at hl 4 rfl) ?_
              obtain ⟨s2_158, hq159, hf⟩ := bd1_at hf
              refine r_rwv (As := [.int p2, .int p3]) (rest := []) (wr := wV g a_v a_rd a_nw a_tr a_da a_i0 a_i1 a_s0 a_s1 a_s2 a_s3 v ++ wS g a_s0 s0 ++ wS g a_s1 s1 ++ wS g a_s3 s3) (ws' := wV g a_v a_rd a_nw a_tr a_da a_i0 a_i1 a_s0 a_s1 a_s2 a_s3 v ++ wS g a_s0 s0 ++ wS g a_s1 s1 ++ wS g a_s2 s2_158 ++ wS g a_s3 s3) C (kX4_put l g _ a_s2 s2 p2 p3 s2_158 hq159) (cwV0 C (inr40 _ (List.mem_of_getElem? (i := 13) rfl)) mwX4_put hdX4_put ⟨Nat.le_of_ble_eq_true rfl, Nat.le_of_ble_eq_true rfl⟩) hK w hA [9, 10] [0, 1, 2, 3, 4, 5, 6, 7, 8, 11, 12] [0, 1, 2, 3, 4, 5, 6, 7, 8, 11, 12, 9, 10] (by decide) rfl rfl (by decide) (by decide) rfl (by decide) rfl rfl rfl hl.1 rfl (Nat.le_of_ble_eq_true rfl) ⟨Nat.zero_le _, Nat.zero_le _⟩ (dk_at dkX5_lay 31 rfl) (fun H locs w => ?_)
              refine lv_iconst (v := 1) C.1 C.2.1 (dk_at dkX5_lay 32 rfl) (by decide) ?_
              cases hf
              exact fin _ _ _ _ _ (dk_at dkX5_lay 33 rfl) rfl w
            · have hf : _ := (((if_neg (by rw [hs]; decide)).trans (if_neg (by rw [hs]; decide))).trans (if_neg (by rw [hs]; decide))).symm.trans hf
              refine r_alds (b := a_s3 0) C hK w.1 4 rfl h153 (by rw [hs]; rfl) (dk_at dkX5_lay 28 rfl) ?_
              refine lv_iload_n C.1 C.2.1 (dk_at dkX5_lay 29 rfl) rfl (lv_at hl 3 rfl) ?_
              refine lv_iload_n C.1 C.2.1 (dk_at dkX5_lay 30 rfl) rfl (lv_at hl 4 rfl) ?_
              obtain ⟨s3_160, hq161, hf⟩ := bd1_at hf
              refine r_rwv (As := [.int p2, .int p3]) (rest := []) (wr := wV g a_v a_rd a_nw a_tr a_da a_i0 a_i1 a_s0 a_s1 a_s2 a_s3 v ++ wS g a_s0 s0 ++ wS g a_s1 s1 ++ wS g a_s2 s2) (ws' := wV g a_v a_rd a_nw a_tr a_da a_i0 a_i1 a_s0 a_s1 a_s2 a_s3 v ++ wS g a_s0 s0 ++ wS g a_s1 s1 ++ wS g a_s2 s2 ++ wS g a_s3 s3_160) C (kX4_put l g _ a_s3 s3 p2 p3 s3_160 hq161) (cwV0 C (inr40 _ (List.mem_of_getElem? (i := 13) rfl)) mwX4_put hdX4_put ⟨Nat.le_of_ble_eq_true rfl, Nat.le_of_ble_eq_true rfl⟩) hK w hA [11, 12] [0, 1, 2, 3, 4, 5, 6, 7, 8, 9, 10] [0, 1, 2, 3, 4, 5, 6, 7, 8, 9, 10, 11, 12] (by decide) rfl rfl (by decide) (by decide) rfl (by decide) rfl rfl rfl hl.1 rfl (Nat.le_of_ble_eq_true rfl) ⟨Nat.zero_le _, Nat.zero_le _⟩ (dk_at dkX5_lay 31 rfl) (fun H locs w => ?_)
              refine lv_iconst (v := 1) C.1 C.2.1 (dk_at dkX5_lay 32 rfl) (by decide) ?_
              cases hf
              exact fin _ _ _ _ _ (dk_at dkX5_lay 33 rfl) rfl w
          · have hf := (if_neg c152).symm.trans hf
            refine lv_bipush (v := (-10)) C.1 C.2.1 (dk_at dkX5_lay 21 rfl) (by decide) ?_
            refine lv_iload C.1 C.2.1 (dk_at dkX5_lay 22 rfl) (lv_at hl 0 rfl) ?_
            refine lv_isub C.1 C.2.1 (dk_at dkX5_lay 23 rfl) ?_
            refine lv_topi (fun x162 ex162 => ?_)
            have hf := nm_at ex162 hf
            cases hf
            exact fin _ _ _ _ _ (dk_at dkX5_lay 24 rfl) rfl w
      · have hf : _ := (((if_neg (by rw [hs]; decide)).trans (if_neg (by rw [hs]; decide))).trans (if_neg (by rw [hs]; decide))).symm.trans hf
        refine r_alds (b := a_s3 0) C hK w.1 4 rfl h3 (by rw [hs]; rfl) (dk_at dkX5_lay 10 rfl) ?_
        refine lv_aload_n C.1 C.2.1 (dk_at dkX5_lay 11 rfl) rfl (lv_at hl 0 rfl) ?_
        refine r_get (v := .ref (a_v 4)) C hK w.1 (fun w h => List.mem_cons_of_mem _ (inlX5 w h)) 0 rfl rfl 7 (by decide) (List.mem_cons_of_mem _ (inr2 _ (List.mem_of_getElem? (i := 7) rfl))) rfl (dk_at dkX5_lay 12 rfl) ?_
        refine lv_iload_n C.1 C.2.1 (dk_at dkX5_lay 13 rfl) rfl (lv_at hl 1 rfl) ?_
        obtain ⟨h163, hf⟩ := gd_at hf
        rcases lt4 (in_lt h163) with hs | hs | hs | hs
        · have hf : _ := (if_pos hs).symm.trans hf
          refine r_alds (b := a_s0 0) C hK w.1 4 rfl h163 (by rw [hs]; rfl) (dk_at dkX5_lay 14 rfl) ?_
          refine r_get (v := .int (sLa s0)) C hK w.1 (fun w h => List.mem_cons_of_mem _ (inlX4 w h)) 5 rfl rfl 1 (by decide) (List.mem_cons_of_mem _ (inr40 _ (List.mem_of_getElem? (i := 8) rfl))) rfl (dk_at dkX5_lay 15 rfl) ?_
          refine lv_iload_n C.1 C.2.1 (dk_at dkX5_lay 16 rfl) rfl (lv_at hl 2 rfl) ?_
          obtain ⟨r164, hq165, hf⟩ := bd1_at hf
          refine r_roV (As := [.int (sLa s0), .int p2]) (rest := []) C (kX4_flawAt l g a_s3 s3 (sLa s0) p2 r164 hq165) (cwV0 C (inr40 _ (List.mem_of_getElem? (i := 9) rfl)) mwX4_flawAt hdX4_flawAt ⟨Nat.le_of_ble_eq_true rfl, Nat.le_of_ble_eq_true rfl⟩) hK (w.1.sub [11, 12] rfl) rfl rfl rfl hl.1 rfl (Nat.le_of_ble_eq_true rfl) ⟨Nat.zero_le _, Nat.zero_le _⟩ (dk_at dkX5_lay 17 rfl) ?_
          refine lv_istore (lv' := [(4, .int r164), (0, .ref (a_v 0)), (1, .int p1), (2, .int p2), (3, .int p3)]) C.1 C.2.1 (dk_at dkX5_lay 18 rfl) hl (by decide) rfl (fun ls hl => ?_)
          refine lv_iload C.1 C.2.1 (dk_at dkX5_lay 19 rfl) (lv_at hl 0 rfl) ?_
          refine lv_if_eq (tgt := 43) C.1 C.2.1 (dk_at dkX5_lay 20 rfl) (by decide) (fun c166 => ?_) (fun c166 => ?_)
          · have hf := (if_pos c166).symm.trans hf
            refine lv_aload_n C.1 C.2.1 (dk_at dkX5_lay 25 rfl) rfl (lv_at hl 1 rfl) ?_
            refine r_get (v := .ref (a_v 4)) C hK w.1 (fun w h => List.mem_cons_of_mem _ (inlX5 w h)) 0 rfl rfl 7 (by decide) (List.mem_cons_of_mem _ (inr2 _ (List.mem_of_getElem? (i := 7) rfl))) rfl (dk_at dkX5_lay 26 rfl) ?_
            refine lv_iload_n C.1 C.2.1 (dk_at dkX5_lay 27 rfl) rfl (lv_at hl 2 rfl) ?_
            obtain ⟨h167, hf⟩ := gd_at hf
            rcases lt4 (in_lt h167) with hs | hs | hs | hs
            · have hf : _ := (if_pos hs).symm.trans hf
              refine r_alds (b := a_s0 0) C hK w.1 4 rfl h167 (by rw [hs]; rfl) (dk_at dkX5_lay 28 rfl) ?_
              refine lv_iload_n C.1 C.2.1 (dk_at dkX5_lay 29 rfl) rfl (lv_at hl 3 rfl) ?_
              refine lv_iload_n C.1 C.2.1 (dk_at dkX5_lay 30 rfl) rfl (lv_at hl 4 rfl) ?_
              obtain ⟨s0_168, hq169, hf⟩ := bd1_at hf
              refine r_rwv (As := [.int p2, .int p3]) (rest := []) (wr := wV g a_v a_rd a_nw a_tr a_da a_i0 a_i1 a_s0 a_s1 a_s2 a_s3 v ++ wS g a_s1 s1 ++ wS g a_s2 s2 ++ wS g a_s3 s3) (ws' := wV g a_v a_rd a_nw a_tr a_da a_i0 a_i1 a_s0 a_s1 a_s2 a_s3 v ++ wS g a_s0 s0_168 ++ wS g a_s1 s1 ++ wS g a_s2 s2 ++ wS g a_s3 s3) C (kX4_put l g _ a_s0 s0 p2 p3 s0_168 hq169) (cwV0 C (inr40 _ (List.mem_of_getElem? (i := 13) rfl)) mwX4_put hdX4_put ⟨Nat.le_of_ble_eq_true rfl, Nat.le_of_ble_eq_true rfl⟩) hK w hA [5, 6] [0, 1, 2, 3, 4, 7, 8, 9, 10, 11, 12] [0, 1, 2, 3, 4, 11, 12, 5, 6, 7, 8, 9, 10] (by decide) rfl rfl (by decide) (by decide) rfl (by decide) rfl rfl rfl hl.1 rfl (Nat.le_of_ble_eq_true rfl) ⟨Nat.zero_le _, Nat.zero_le _⟩ (dk_at dkX5_lay 31 rfl) (fun H locs w => ?_)
              refine lv_iconst (v := 1) C.1 C.2.1 (dk_at dkX5_lay 32 rfl) (by decide) ?_
              cases hf
              exact fin _ _ _ _ _ (dk_at dkX5_lay 33 rfl) rfl w
            · have hf : _ := ((if_neg (by rw [hs]; decide)).trans (if_pos hs)).symm.trans hf
              refine r_alds (b := a_s1 0) C hK w.1 4 rfl h167 (by rw [hs]; rfl) (dk_at dkX5_lay 28 rfl) ?_
              refine lv_iload_n C.1 C.2.1 (dk_at dkX5_lay 29 rfl) rfl (lv_at hl 3 rfl) ?_
              refine lv_iload_n C.1 C.2.1 (dk_at dkX5_lay 30 rfl) rfl (lv_at hl 4 rfl) ?_
              obtain ⟨s1_170, hq171, hf⟩ := bd1_at hf
              refine r_rwv (As := [.int p2, .int p3]) (rest := []) (wr := wV g a_v a_rd a_nw a_tr a_da a_i0 a_i1 a_s0 a_s1 a_s2 a_s3 v ++ wS g a_s0 s0 ++ wS g a_s2 s2 ++ wS g a_s3 s3) (ws' := wV g a_v a_rd a_nw a_tr a_da a_i0 a_i1 a_s0 a_s1 a_s2 a_s3 v ++ wS g a_s0 s0 ++ wS g a_s1 s1_170 ++ wS g a_s2 s2 ++ wS g a_s3 s3) C (kX4_put l g _ a_s1 s1 p2 p3 s1_170 hq171) (cwV0 C (inr40 _ (List.mem_of_getElem? (i := 13) rfl)) mwX4_put hdX4_put ⟨Nat.le_of_ble_eq_true rfl, Nat.le_of_ble_eq_true rfl⟩) hK w hA [7, 8] [0, 1, 2, 3, 4, 5, 6, 9, 10, 11, 12] [0, 1, 2, 3, 4, 5, 6, 11, 12, 7, 8, 9, 10] (by decide) rfl rfl (by decide) (by decide) rfl (by decide) rfl rfl rfl hl.1 rfl (Nat.le_of_ble_eq_true rfl) ⟨Nat.zero_le _, Nat.zero_le _⟩ (dk_at dkX5_lay 31 rfl) (fun H locs w => ?_)
              refine lv_iconst (v := 1) C.1 C.2.1 (dk_at dkX5_lay 32 rfl) (by decide) ?_
              cases hf
              exact fin _ _ _ _ _ (dk_at dkX5_lay 33 rfl) rfl w
            · have hf : _ := (((if_neg (by rw [hs]; decide)).trans (if_neg (by rw [hs]; decide))).trans (if_pos hs)).symm.trans hf
              refine r_alds (b := a_s2 0) C hK w.1 4 rfl h167 (by rw [hs]; rfl) (dk_at dkX5_lay 28 rfl) ?_
              refine lv_iload_n C.1 C.2.1 (dk_at dkX5_lay 29 rfl) rfl (lv_at hl 3 rfl) ?_
              refine lv_iload_n C.1 C.2.1 (dk_at dkX5_lay 30 rfl) rfl (lv_at hl 4 rfl) ?_
              obtain ⟨s2_172, hq173, hf⟩ := bd1_at hf
              refine r_rwv (As := [.int p2, .int p3]) (rest := []) (wr := wV g a_v a_rd a_nw a_tr a_da a_i0 a_i1 a_s0 a_s1 a_s2 a_s3 v ++ wS g a_s0 s0 ++ wS g a_s1 s1 ++ wS g a_s3 s3) (ws' := wV g a_v a_rd a_nw a_tr a_da a_i0 a_i1 a_s0 a_s1 a_s2 a_s3 v ++ wS g a_s0 s0 ++ wS g a_s1 s1 ++ wS g a_s2 s2_172 ++ wS g a_s3 s3) C (kX4_put l g _ a_s2 s2 p2 p3 s2_172 hq173) (cwV0 C (inr40 _ (List.mem_of_getElem? (i := 13) rfl)) mwX4_put hdX4_put ⟨Nat.le_of_ble_eq_true rfl, Nat.le_of_ble_eq_true rfl⟩) hK w hA [9, 10] [0, 1, 2, 3, 4, 5, 6, 7, 8, 11, 12] [0, 1, 2, 3, 4, 5, 6, 7, 8, 11, 12, 9, 10] (by decide) rfl rfl (by decide) (by decide) rfl (by decide) rfl rfl rfl hl.1 rfl (Nat.le_of_ble_eq_true rfl) ⟨Nat.zero_le _, Nat.zero_le _⟩ (dk_at dkX5_lay 31 rfl) (fun H locs w => ?_)
              refine lv_iconst (v := 1) C.1 C.2.1 (dk_at dkX5_lay 32 rfl) (by decide) ?_
              cases hf
              exact fin _ _ _ _ _ (dk_at dkX5_lay 33 rfl) rfl w
            · have hf : _ := (((if_neg (by rw [hs]; decide)).trans (if_neg (by rw [hs]; decide))).trans (if_neg (by rw [hs]; decide))).symm.trans hf
              refine r_alds (b := a_s3 0) C hK w.1 4 rfl h167 (by rw [hs]; rfl) (dk_at dkX5_lay 28 rfl) ?_
              refine lv_iload_n C.1 C.2.1 (dk_at dkX5_lay 29 rfl) rfl (lv_at hl 3 rfl) ?_
              refine lv_iload_n C.1 C.2.1 (dk_at dkX5_lay 30 rfl) rfl (lv_at hl 4 rfl) ?_
              obtain ⟨s3_174, hq175, hf⟩ := bd1_at hf
              refine r_rwv (As := [.int p2, .int p3]) (rest := []) (wr := wV g a_v a_rd a_nw a_tr a_da a_i0 a_i1 a_s0 a_s1 a_s2 a_s3 v ++ wS g a_s0 s0 ++ wS g a_s1 s1 ++ wS g a_s2 s2) (ws' := wV g a_v a_rd a_nw a_tr a_da a_i0 a_i1 a_s0 a_s1 a_s2 a_s3 v ++ wS g a_s0 s0 ++ wS g a_s1 s1 ++ wS g a_s2 s2 ++ wS g a_s3 s3_174) C (kX4_put l g _ a_s3 s3 p2 p3 s3_174 hq175) (cwV0 C (inr40 _ (List.mem_of_getElem? (i := 13) rfl)) mwX4_put hdX4_put ⟨Nat.le_of_ble_eq_true rfl, Nat.le_of_ble_eq_true rfl⟩) hK w hA [11, 12] [0, 1, 2, 3, 4, 5, 6, 7, 8, 9, 10] [0, 1, 2, 3, 4, 5, 6, 7, 8, 9, 10, 11, 12] (by decide) rfl rfl (by decide) (by decide) rfl (by decide) rfl rfl rfl hl.1 rfl (Nat.le_of_ble_eq_true rfl) ⟨Nat.zero_le _, Nat.zero_le _⟩ (dk_at dkX5_lay 31 rfl) (fun H locs w => ?_)
              refine lv_iconst (v := 1) C.1 C.2.1 (dk_at dkX5_lay 32 rfl) (by decide) ?_
              cases hf
              exact fin _ _ _ _ _ (dk_at dkX5_lay 33 rfl) rfl w
          · have hf := (if_neg c166).symm.trans hf
            refine lv_bipush (v := (-10)) C.1 C.2.1 (dk_at dkX5_lay 21 rfl) (by decide) ?_
            refine lv_iload C.1 C.2.1 (dk_at dkX5_lay 22 rfl) (lv_at hl 0 rfl) ?_
            refine lv_isub C.1 C.2.1 (dk_at dkX5_lay 23 rfl) ?_
            refine lv_topi (fun x176 ex176 => ?_)
            have hf := nm_at ex176 hf
            cases hf
            exact fin _ _ _ _ _ (dk_at dkX5_lay 24 rfl) rfl w
        · have hf : _ := ((if_neg (by rw [hs]; decide)).trans (if_pos hs)).symm.trans hf
          refine r_alds (b := a_s1 0) C hK w.1 4 rfl h163 (by rw [hs]; rfl) (dk_at dkX5_lay 14 rfl) ?_
          refine r_get (v := .int (sLa s1)) C hK w.1 (fun w h => List.mem_cons_of_mem _ (inlX4 w h)) 7 rfl rfl 1 (by decide) (List.mem_cons_of_mem _ (inr40 _ (List.mem_of_getElem? (i := 8) rfl))) rfl (dk_at dkX5_lay 15 rfl) ?_
          refine lv_iload_n C.1 C.2.1 (dk_at dkX5_lay 16 rfl) rfl (lv_at hl 2 rfl) ?_
          obtain ⟨r177, hq178, hf⟩ := bd1_at hf
          refine r_roV (As := [.int (sLa s1), .int p2]) (rest := []) C (kX4_flawAt l g a_s3 s3 (sLa s1) p2 r177 hq178) (cwV0 C (inr40 _ (List.mem_of_getElem? (i := 9) rfl)) mwX4_flawAt hdX4_flawAt ⟨Nat.le_of_ble_eq_true rfl, Nat.le_of_ble_eq_true rfl⟩) hK (w.1.sub [11, 12] rfl) rfl rfl rfl hl.1 rfl (Nat.le_of_ble_eq_true rfl) ⟨Nat.zero_le _, Nat.zero_le _⟩ (dk_at dkX5_lay 17 rfl) ?_
          refine lv_istore (lv' := [(4, .int r177), (0, .ref (a_v 0)), (1, .int p1), (2, .int p2), (3, .int p3)]) C.1 C.2.1 (dk_at dkX5_lay 18 rfl) hl (by decide) rfl (fun ls hl => ?_)
          refine lv_iload C.1 C.2.1 (dk_at dkX5_lay 19 rfl) (lv_at hl 0 rfl) ?_
          refine lv_if_eq (tgt := 43) C.1 C.2.1 (dk_at dkX5_lay 20 rfl) (by decide) (fun c179 => ?_) (fun c179 => ?_)
          · have hf := (if_pos c179).symm.trans hf
            refine lv_aload_n C.1 C.2.1 (dk_at dkX5_lay 25 rfl) rfl (lv_at hl 1 rfl) ?_
            refine r_get (v := .ref (a_v 4)) C hK w.1 (fun w h => List.mem_cons_of_mem _ (inlX5 w h)) 0 rfl rfl 7 (by decide) (List.mem_cons_of_mem _ (inr2 _ (List.mem_of_getElem? (i := 7) rfl))) rfl (dk_at dkX5_lay 26 rfl) ?_
            refine lv_iload_n C.1 C.2.1 (dk_at dkX5_lay 27 rfl) rfl (lv_at hl 2 rfl) ?_
            obtain ⟨h180, hf⟩ := gd_at hf
            rcases lt4 (in_lt h180) with hs | hs | hs | hs
            · have hf : _ := (if_pos hs).symm.trans hf
              refine r_alds (b := a_s0 0) C hK w.1 4 rfl h180 (by rw [hs]; rfl) (dk_at dkX5_lay 28 rfl) ?_
              refine lv_iload_n C.1 C.2.1 (dk_at dkX5_lay 29 rfl) rfl (lv_at hl 3 rfl) ?_
              refine lv_iload_n C.1 C.2.1 (dk_at dkX5_lay 30 rfl) rfl (lv_at hl 4 rfl) ?_
              obtain ⟨s0_181, hq182, hf⟩ := bd1_at hf
              refine r_rwv (As := [.int p2, .int p3]) (rest := []) (wr := wV g a_v a_rd a_nw a_tr a_da a_i0 a_i1 a_s0 a_s1 a_s2 a_s3 v ++ wS g a_s1 s1 ++ wS g a_s2 s2 ++ wS g a_s3 s3) (ws' := wV g a_v a_rd a_nw a_tr a_da a_i0 a_i1 a_s0 a_s1 a_s2 a_s3 v ++ wS g a_s0 s0_181 ++ wS g a_s1 s1 ++ wS g a_s2 s2 ++ wS g a_s3 s3) C (kX4_put l g _ a_s0 s0 p2 p3 s0_181 hq182) (cwV0 C (inr40 _ (List.mem_of_getElem? (i := 13) rfl)) mwX4_put hdX4_put ⟨Nat.le_of_ble_eq_true rfl, Nat.le_of_ble_eq_true rfl⟩) hK w hA [5, 6] [0, 1, 2, 3, 4, 7, 8, 9, 10, 11, 12] [0, 1, 2, 3, 4, 11, 12, 5, 6, 7, 8, 9, 10] (by decide) rfl rfl (by decide) (by decide) rfl (by decide) rfl rfl rfl hl.1 rfl (Nat.le_of_ble_eq_true rfl) ⟨Nat.zero_le _, Nat.zero_le _⟩ (dk_at dkX5_lay 31 rfl) (fun H locs w => ?_)
              refine lv_iconst (v := 1) C.1 C.2.1 (dk_at dkX5_lay 32 rfl) (by decide) ?_
              cases hf
              exact fin _ _ _ _ _ (dk_at dkX5_lay 33 rfl) rfl w
            · have hf : _ := ((if_neg (by rw [hs]; decide)).trans (if_pos hs)).symm.trans hf
              refine r_alds (b := a_s1 0) C hK w.1 4 rfl h180 (by rw [hs]; rfl) (dk_at dkX5_lay 28 rfl) ?_
              refine lv_iload_n C.1 C.2.1 (dk_at dkX5_lay 29 rfl) rfl (lv_at hl 3 rfl) ?_
              refine lv_iload_n C.1 C.2.1 (dk_at dkX5_lay 30 rfl) rfl (lv_at hl 4 rfl) ?_
              obtain ⟨s1_183, hq184, hf⟩ := bd1_at hf
              refine r_rwv (As := [.int p2, .int p3]) (rest := []) (wr := wV g a_v a_rd a_nw a_tr a_da a_i0 a_i1 a_s0 a_s1 a_s2 a_s3 v ++ wS g a_s0 s0 ++ wS g a_s2 s2 ++ wS g a_s3 s3) (ws' := wV g a_v a_rd a_nw a_tr a_da a_i0 a_i1 a_s0 a_s1 a_s2 a_s3 v ++ wS g a_s0 s0 ++ wS g a_s1 s1_183 ++ wS g a_s2 s2 ++ wS g a_s3 s3) C (kX4_put l g _ a_s1 s1 p2 p3 s1_183 hq184) (cwV0 C (inr40 _ (List.mem_of_getElem? (i := 13) rfl)) mwX4_put hdX4_put ⟨Nat.le_of_ble_eq_true rfl, Nat.le_of_ble_eq_true rfl⟩) hK w hA [7, 8] [0, 1, 2, 3, 4, 5, 6, 9, 10, 11, 12] [0, 1, 2, 3, 4, 5, 6, 11, 12, 7, 8, 9, 10] (by decide) rfl rfl (by decide) (by decide) rfl (by decide) rfl rfl rfl hl.1 rfl (Nat.le_of_ble_eq_true rfl) ⟨Nat.zero_le _, Nat.zero_le _⟩ (dk_at dkX5_lay 31 rfl) (fun H locs w => ?_)
              refine lv_iconst (v := 1) C.1 C.2.1 (dk_at dkX5_lay 32 rfl) (by decide) ?_
              cases hf
              exact fin _ _ _ _ _ (dk_at dkX5_lay 33 rfl) rfl w
            · have hf : _ := (((if_neg (by rw [hs]; decide)).trans (if_neg (by rw [hs]; decide))).trans (if_pos hs)).symm.trans hf
              refine r_alds (b := a_s2 0) C hK w.1 4 rfl h180 (by rw [hs]; rfl) (dk_at dkX5_lay 28 rfl) ?_
              refine lv_iload_n C.1 C.2.1 (dk_at dkX5_lay 29 rfl) rfl (lv_at hl 3 rfl) ?_
              refine lv_iload_n C.1 C.2.1 (dk_at dkX5_lay 30 rfl) rfl (lv_at hl 4 rfl) ?_
              obtain ⟨s2_185, hq186, hf⟩ := bd1_at hf
              refine r_rwv (As := [.int p2, .int p3]) (rest := []) (wr := wV g a_v a_rd a_nw a_tr a_da a_i0 a_i1 a_s0 a_s1 a_s2 a_s3 v ++ wS g a_s0 s0 ++ wS g a_s1 s1 ++ wS g a_s3 s3) (ws' := wV g a_v a_rd a_nw a_tr a_da a_i0 a_i1 a_s0 a_s1 a_s2 a_s3 v ++ wS g a_s0 s0 ++ wS g a_s1 s1 ++ wS g a_s2 s2_185 ++ wS g a_s3 s3) C (kX4_put l g _ a_s2 s2 p2 p3 s2_185 hq186) (cwV0 C (inr40 _ (List.mem_of_getElem? (i := 13) rfl)) mwX4_put hdX4_put ⟨Nat.le_of_ble_eq_true rfl, Nat.le_of_ble_eq_true rfl⟩) hK w hA [9, 10] [0, 1, 2, 3, 4, 5, 6, 7, 8, 11, 12] [0, 1, 2, 3, 4, 5, 6, 7, 8, 11, 12, 9, 10] (by decide) rfl rfl (by decide) (by decide) rfl (by decide) rfl rfl rfl hl.1 rfl (Nat.le_of_ble_eq_true rfl) ⟨Nat.zero_le _, Nat.zero_le _⟩ (dk_at dkX5_lay 31 rfl) (fun H locs w => ?_)
              refine lv_iconst (v := 1) C.1 C.2.1 (dk_at dkX5_lay 32 rfl) (by decide) ?_
              cases hf
              exact fin _ _ _ _ _ (dk_at dkX5_lay 33 rfl) rfl w
            · have hf : _ := (((if_neg (by rw [hs]; decide)).trans (if_neg (by rw [hs]; decide))).trans (if_neg (by rw [hs]; decide))).symm.trans hf
              refine r_alds (b := a_s3 0) C hK w.1 4 rfl h180 (by rw [hs]; rfl) (dk_at dkX5_lay 28 rfl) ?_
              refine lv_iload_n C.1 C.2.1 (dk_at dkX5_lay 29 rfl) rfl (lv_at hl 3 rfl) ?_
              refine lv_iload_n C.1 C.2.1 (dk_at dkX5_lay 30 rfl) rfl (lv_at hl 4 rfl) ?_
              obtain ⟨s3_187, hq188, hf⟩ := bd1_at hf
              refine r_rwv (As := [.int p2, .int p3]) (rest := []) (wr := wV g a_v a_rd a_nw a_tr a_da a_i0 a_i1 a_s0 a_s1 a_s2 a_s3 v ++ wS g a_s0 s0 ++ wS g a_s1 s1 ++ wS g a_s2 s2) (ws' := wV g a_v a_rd a_nw a_tr a_da a_i0 a_i1 a_s0 a_s1 a_s2 a_s3 v ++ wS g a_s0 s0 ++ wS g a_s1 s1 ++ wS g a_s2 s2 ++ wS g a_s3 s3_187) C (kX4_put l g _ a_s3 s3 p2 p3 s3_187 hq188) (cwV0 C (inr40 _ (List.mem_of_getElem? (i := 13) rfl)) mwX4_put hdX4_put ⟨Nat.le_of_ble_eq_true rfl, Nat.le_of_ble_eq_true rfl⟩) hK w hA [11, 12] [0, 1, 2, 3, 4, 5, 6, 7, 8, 9, 10] [0, 1, 2, 3, 4, 5, 6, 7, 8, 9, 10, 11, 12] (by decide) rfl rfl (by decide) (by decide) rfl (by decide) rfl rfl rfl hl.1 rfl (Nat.le_of_ble_eq_true rfl) ⟨Nat.zero_le _, Nat.zero_le _⟩ (dk_at dkX5_lay 31 rfl) (fun H locs w => ?_)
              refine lv_iconst (v := 1) C.1 C.2.1 (dk_at dkX5_lay 32 rfl) (by decide) ?_
              cases hf
              exact fin _ _ _ _ _ (dk_at dkX5_lay 33 rfl) rfl w
          · have hf := (if_neg c179).symm.trans hf
            refine lv_bipush (v := (-10)) C.1 C.2.1 (dk_at dkX5_lay 21 rfl) (by decide) ?_
            refine lv_iload C.1 C.2.1 (dk_at dkX5_lay 22 rfl) (lv_at hl 0 rfl) ?_
            refine lv_isub C.1 C.2.1 (dk_at dkX5_lay 23 rfl) ?_
            refine lv_topi (fun x189 ex189 => ?_)
            have hf := nm_at ex189 hf
            cases hf
            exact fin _ _ _ _ _ (dk_at dkX5_lay 24 rfl) rfl w
        · have hf : _ := (((if_neg (by rw [hs]; decide)).trans (if_neg (by rw [hs]; decide))).trans (if_pos hs)).symm.trans hf
          refine r_alds (b := a_s2 0) C hK w.1 4 rfl h163 (by rw [hs]; rfl) (dk_at dkX5_lay 14 rfl) ?_
          refine r_get (v := .int (sLa s2)) C hK w.1 (fun w h => List.mem_cons_of_mem _ (inlX4 w h)) 9 rfl rfl 1 (by decide) (List.mem_cons_of_mem _ (inr40 _ (List.mem_of_getElem? (i := 8) rfl))) rfl (dk_at dkX5_lay 15 rfl) ?_
          refine lv_iload_n C.1 C.2.1 (dk_at dkX5_lay 16 rfl) rfl (lv_at hl 2 rfl) ?_
          obtain ⟨r190, hq191, hf⟩ := bd1_at hf
          refine r_roV (As := [.int (sLa s2), .int p2]) (rest := []) C (kX4_flawAt l g a_s3 s3 (sLa s2) p2 r190 hq191) (cwV0 C (inr40 _ (List.mem_of_getElem? (i := 9) rfl)) mwX4_flawAt hdX4_flawAt ⟨Nat.le_of_ble_eq_true rfl, Nat.le_of_ble_eq_true rfl⟩) hK (w.1.sub [11, 12] rfl) rfl rfl rfl hl.1 rfl (Nat.le_of_ble_eq_true rfl) ⟨Nat.zero_le _, Nat.zero_le _⟩ (dk_at dkX5_lay 17 rfl) ?_
          refine lv_istore (lv' := [(4, .int r190), (0, .ref (a_v 0)), (1, .int p1), (2, .int p2), (3, .int p3)]) C.1 C.2.1 (dk_at dkX5_lay 18 rfl) hl (by decide) rfl (fun ls hl => ?_)
          refine lv_iload C.1 C.2.1 (dk_at dkX5_lay 19 rfl) (lv_at hl 0 rfl) ?_
          refine lv_if_eq (tgt := 43) C.1 C.2.1 (dk_at dkX5_lay 20 rfl) (by decide) (fun c192 => ?_) (fun c192 => ?_)
          · have hf := (if_pos c192).symm.trans hf
            refine lv_aload_n C.1 C.2.1 (dk_at dkX5_lay 25 rfl) rfl (lv_at hl 1 rfl) ?_
            refine r_get (v := .ref (a_v 4)) C hK w.1 (fun w h => List.mem_cons_of_mem _ (inlX5 w h)) 0 rfl rfl 7 (by decide) (List.mem_cons_of_mem _ (inr2 _ (List.mem_of_getElem? (i := 7) rfl))) rfl (dk_at dkX5_lay 26 rfl) ?_
            refine lv_iload_n C.1 C.2.1 (dk_at dkX5_lay 27 rfl) rfl (lv_at hl 2 rfl) ?_
            obtain ⟨h193, hf⟩ := gd_at hf
            rcases lt4 (in_lt h193) with hs | hs | hs | hs
            · have hf : _ := (if_pos hs).symm.trans hf
              refine r_alds (b := a_s0 0) C hK w.1 4 rfl h193 (by rw [hs]; rfl) (dk_at dkX5_lay 28 rfl) ?_
              refine lv_iload_n C.1 C.2.1 (dk_at dkX5_lay 29 rfl) rfl (lv_at hl 3 rfl) ?_
              refine lv_iload_n C.1 C.2.1 (dk_at dkX5_lay 30 rfl) rfl (lv_at hl 4 rfl) ?_
              obtain ⟨s0_194, hq195, hf⟩ := bd1_at hf
              refine r_rwv (As := [.int p2, .int p3]) (rest := []) (wr := wV g a_v a_rd a_nw a_tr a_da a_i0 a_i1 a_s0 a_s1 a_s2 a_s3 v ++ wS g a_s1 s1 ++ wS g a_s2 s2 ++ wS g a_s3 s3) (ws' := wV g a_v a_rd a_nw a_tr a_da a_i0 a_i1 a_s0 a_s1 a_s2 a_s3 v ++ wS g a_s0 s0_194 ++ wS g a_s1 s1 ++ wS g a_s2 s2 ++ wS g a_s3 s3) C (kX4_put l g _ a_s0 s0 p2 p3 s0_194 hq195) (cwV0 C (inr40 _ (List.mem_of_getElem? (i := 13) rfl)) mwX4_put hdX4_put ⟨Nat.le_of_ble_eq_true rfl, Nat.le_of_ble_eq_true rfl⟩) hK w hA [5, 6] [0, 1, 2, 3, 4, 7, 8, 9, 10, 11, 12] [0, 1, 2, 3, 4, 11, 12, 5, 6, 7, 8, 9, 10] (by decide) rfl rfl (by decide) (by decide) rfl (by decide) rfl rfl rfl hl.1 rfl (Nat.le_of_ble_eq_true rfl) ⟨Nat.zero_le _, Nat.zero_le _⟩ (dk_at dkX5_lay 31 rfl) (fun H locs w => ?_)
              refine lv_iconst (v := 1) C.1 C.2.1 (dk_at dkX5_lay 32 rfl) (by decide) ?_
              cases hf
              exact fin _ _ _ _ _ (dk_at dkX5_lay 33 rfl) rfl w
            · have hf : _ := ((if_neg (by rw [hs]; decide)).trans (if_pos hs)).symm.trans hf
              refine r_alds (b := a_s1 0) C hK w.1 4 rfl h193 (by rw [hs]; rfl) (dk_at dkX5_lay 28 rfl) ?_
              refine lv_iload_n C.1 C.2.1 (dk_at dkX5_lay 29 rfl) rfl (lv_at hl 3 rfl) ?_
              refine lv_iload_n C.1 C.2.1 (dk_at dkX5_lay 30 rfl) rfl (lv_at hl 4 rfl) ?_
              obtain ⟨s1_196, hq197, hf⟩ := bd1_at hf
              refine r_rwv (As := [.int p2, .int p3]) (rest := []) (wr := wV g a_v a_rd a_nw a_tr a_da a_i0 a_i1 a_s0 a_s1 a_s2 a_s3 v ++ wS g a_s0 s0 ++ wS g a_s2 s2 ++ wS g a_s3 s3) (ws' := wV g a_v a_rd a_nw a_tr a_da a_i0 a_i1 a_s0 a_s1 a_s2 a_s3 v ++ wS g a_s0 s0 ++ wS g a_s1 s1_196 ++ wS g a_s2 s2 ++ wS g a_s3 s3) C (kX4_put l g _ a_s1 s1 p2 p3 s1_196 hq197) (cwV0 C (inr40 _ (List.mem_of_getElem? (i := 13) rfl)) mwX4_put hdX4_put ⟨Nat.le_of_ble_eq_true rfl, Nat.le_of_ble_eq_true rfl⟩) hK w hA [7, 8] [0, 1, 2, 3, 4, 5, 6, 9, 10, 11, 12] [0, 1, 2, 3, 4, 5, 6, 11, 12, 7, 8, 9, 10] (by decide) rfl rfl (by decide) (by decide) rfl (by decide) rfl rfl rfl hl.1 rfl (Nat.le_of_ble_eq_true rfl) ⟨Nat.zero_le _, Nat.zero_le _⟩ (dk_at dkX5_lay 31 rfl) (fun H locs w => ?_)
              refine lv_iconst (v := 1) C.1 C.2.1 (dk_at dkX5_lay 32 rfl) (by decide) ?_
              cases hf
              exact fin _ _ _ _ _ (dk_at dkX5_lay 33 rfl) rfl w
            · have hf : _ := (((if_neg (by rw [hs]; decide)).trans (if_neg (by rw [hs]; decide))).trans (if_pos hs)).symm.trans hf
              refine r_alds (b := a_s2 0) C hK w.1 4 rfl h193 (by rw [hs]; rfl) (dk_at dkX5_lay 28 rfl) ?_
              refine lv_iload_n C.1 C.2.1 (dk_at dkX5_lay 29 rfl) rfl (lv_at hl 3 rfl) ?_
              refine lv_iload_n C.1 C.2.1 (dk_at dkX5_lay 30 rfl) rfl (lv_at hl 4 rfl) ?_
              obtain ⟨s2_198, hq199, hf⟩ := bd1_at hf
              refine r_rwv (As := [.int p2, .int p3]) (rest := []) (wr := wV g a_v a_rd a_nw a_tr a_da a_i0 a_i1 a_s0 a_s1 a_s2 a_s3 v ++ wS g a_s0 s0 ++ wS g a_s1 s1 ++ wS g a_s3 s3) (ws' := wV g a_v a_rd a_nw a_tr a_da a_i0 a_i1 a_s0 a_s1 a_s2 a_s3 v ++ wS g a_s0 s0 ++ wS g a_s1 s1 ++ wS g a_s2 s2_198 ++ wS g a_s3 s3) C (kX4_put l g _ a_s2 s2 p2 p3 s2_198 hq199) (cwV0 C (inr40 _ (List.mem_of_getElem? (i := 13) rfl)) mwX4_put hdX4_put ⟨Nat.le_of_ble_eq_true rfl, Nat.le_of_ble_eq_true rfl⟩) hK w hA [9, 10] [0, 1, 2, 3, 4, 5, 6, 7, 8, 11, 12] [0, 1, 2, 3, 4, 5, 6, 7, 8, 11, 12, 9, 10] (by decide) rfl rfl (by decide) (by decide) rfl (by decide) rfl rfl rfl hl.1 rfl (Nat.le_of_ble_eq_true rfl) ⟨Nat.zero_le _, Nat.zero_le _⟩ (dk_at dkX5_lay 31 rfl) (fun H locs w => ?_)
              refine lv_iconst (v := 1) C.1 C.2.1 (dk_at dkX5_lay 32 rfl) (by decide) ?_
              cases hf
              exact fin _ _ _ _ _ (dk_at dkX5_lay 33 rfl) rfl w
            · have hf : _ := (((if_neg (by rw [hs]; decide)).trans (if_neg (by rw [hs]; decide))).trans (if_neg (by rw [hs]; decide))).symm.trans hf
              refine r_alds (b := a_s3 0) C hK w.1 4 rfl h193 (by rw [hs]; rfl) (dk_at dkX5_lay 28 rfl) ?_
              refine lv_iload_n C.1 C.2.1 (dk_at dkX5_lay 29 rfl) rfl (lv_at hl 3 rfl) ?_
              refine lv_iload_n C.1 C.2.1 (dk_at dkX5_lay 30 rfl) rfl (lv_at hl 4 rfl) ?_
              obtain ⟨s3_200, hq201, hf⟩ := bd1_at hf
              refine r_rwv (As := [.int p2, .int p3]) (rest := []) (wr := wV g a_v a_rd a_nw a_tr a_da a_i0 a_i1 a_s0 a_s1 a_s2 a_s3 v ++ wS g a_s0 s0 ++ wS g a_s1 s1 ++ wS g a_s2 s2) (ws' := wV g a_v a_rd a_nw a_tr a_da a_i0 a_i1 a_s0 a_s1 a_s2 a_s3 v ++ wS g a_s0 s0 ++ wS g a_s1 s1 ++ wS g a_s2 s2 ++ wS g a_s3 s3_200) C (kX4_put l g _ a_s3 s3 p2 p3 s3_200 hq201) (cwV0 C (inr40 _ (List.mem_of_getElem? (i := 13) rfl)) mwX4_put hdX4_put ⟨Nat.le_of_ble_eq_true rfl, Nat.le_of_ble_eq_true rfl⟩) hK w hA [11, 12] [0, 1, 2, 3, 4, 5, 6, 7, 8, 9, 10] [0, 1, 2, 3, 4, 5, 6, 7, 8, 9, 10, 11, 12] (by decide) rfl rfl (by decide) (by decide) rfl (by decide) rfl rfl rfl hl.1 rfl (Nat.le_of_ble_eq_true rfl) ⟨Nat.zero_le _, Nat.zero_le _⟩ (dk_at dkX5_lay 31 rfl) (fun H locs w => ?_)
              refine lv_iconst (v := 1) C.1 C.2.1 (dk_at dkX5_lay 32 rfl) (by decide) ?_
              cases hf
              exact fin _ _ _ _ _ (dk_at dkX5_lay 33 rfl) rfl w
          · have hf := (if_neg c192).symm.trans hf
            refine lv_bipush (v := (-10)) C.1 C.2.1 (dk_at dkX5_lay 21 rfl) (by decide) ?_
            refine lv_iload C.1 C.2.1 (dk_at dkX5_lay 22 rfl) (lv_at hl 0 rfl) ?_
            refine lv_isub C.1 C.2.1 (dk_at dkX5_lay 23 rfl) ?_
            refine lv_topi (fun x202 ex202 => ?_)
            have hf := nm_at ex202 hf
            cases hf
            exact fin _ _ _ _ _ (dk_at dkX5_lay 24 rfl) rfl w
        · have hf : _ := (((if_neg (by rw [hs]; decide)).trans (if_neg (by rw [hs]; decide))).trans (if_neg (by rw [hs]; decide))).symm.trans hf
          refine r_alds (b := a_s3 0) C hK w.1 4 rfl h163 (by rw [hs]; rfl) (dk_at dkX5_lay 14 rfl) ?_
          refine r_get (v := .int (sLa s3)) C hK w.1 (fun w h => List.mem_cons_of_mem _ (inlX4 w h)) 11 rfl rfl 1 (by decide) (List.mem_cons_of_mem _ (inr40 _ (List.mem_of_getElem? (i := 8) rfl))) rfl (dk_at dkX5_lay 15 rfl) ?_
          refine lv_iload_n C.1 C.2.1 (dk_at dkX5_lay 16 rfl) rfl (lv_at hl 2 rfl) ?_
          obtain ⟨r203, hq204, hf⟩ := bd1_at hf
          refine r_roV (As := [.int (sLa s3), .int p2]) (rest := []) C (kX4_flawAt l g a_s3 s3 (sLa s3) p2 r203 hq204) (cwV0 C (inr40 _ (List.mem_of_getElem? (i := 9) rfl)) mwX4_flawAt hdX4_flawAt ⟨Nat.le_of_ble_eq_true rfl, Nat.le_of_ble_eq_true rfl⟩) hK (w.1.sub [11, 12] rfl) rfl rfl rfl hl.1 rfl (Nat.le_of_ble_eq_true rfl) ⟨Nat.zero_le _, Nat.zero_le _⟩ (dk_at dkX5_lay 17 rfl) ?_
          refine lv_istore (lv' := [(4, .int r203), (0, .ref (a_v 0)), (1, .int p1), (2, .int p2), (3, .int p3)]) C.1 C.2.1 (dk_at dkX5_lay 18 rfl) hl (by decide) rfl (fun ls hl => ?_)
          refine lv_iload C.1 C.2.1 (dk_at dkX5_lay 19 rfl) (lv_at hl 0 rfl) ?_
          refine lv_if_eq (tgt := 43) C.1 C.2.1 (dk_at dkX5_lay 20 rfl) (by decide) (fun c205 => ?_) (fun c205 => ?_)
          · have hf := (if_pos c205).symm.trans hf
            refine lv_aload_n C.1 C.2.1 (dk_at dkX5_lay 25 rfl) rfl (lv_at hl 1 rfl) ?_
            refine r_get (v := .ref (a_v 4)) C hK w.1 (fun w h => List.mem_cons_of_mem _ (inlX5 w h)) 0 rfl rfl 7 (by decide) (List.mem_cons_of_mem _ (inr2 _ (List.mem_of_getElem? (i := 7) rfl))) rfl (dk_at dkX5_lay 26 rfl) ?_
            refine lv_iload_n C.1 C.2.1 (dk_at dkX5_lay 27 rfl) rfl (lv_at hl 2 rfl) ?_
            obtain ⟨h206, hf⟩ := gd_at hf
            rcases lt4 (in_lt h206) with hs | hs | hs | hs
            · have hf : _ := (if_pos hs).symm.trans hf
              refine r_alds (b := a_s0 0) C hK w.1 4 rfl h206 (by rw [hs]; rfl) (dk_at dkX5_lay 28 rfl) ?_
              refine lv_iload_n C.1 C.2.1 (dk_at dkX5_lay 29 rfl) rfl (lv_at hl 3 rfl) ?_
              refine lv_iload_n C.1 C.2.1 (dk_at dkX5_lay 30 rfl) rfl (lv_at hl 4 rfl) ?_
              obtain ⟨s0_207, hq208, hf⟩ := bd1_at hf
              refine r_rwv (As := [.int p2, .int p3]) (rest := []) (wr := wV g a_v a_rd a_nw a_tr a_da a_i0 a_i1 a_s0 a_s1 a_s2 a_s3 v ++ wS g a_s1 s1 ++ wS g a_s2 s2 ++ wS g a_s3 s3) (ws' := wV g a_v a_rd a_nw a_tr a_da a_i0 a_i1 a_s0 a_s1 a_s2 a_s3 v ++ wS g a_s0 s0_207 ++ wS g a_s1 s1 ++ wS g a_s2 s2 ++ wS g a_s3 s3) C (kX4_put l g _ a_s0 s0 p2 p3 s0_207 hq208) (cwV0 C (inr40 _ (List.mem_of_getElem? (i := 13) rfl)) mwX4_put hdX4_put ⟨Nat.le_of_ble_eq_true rfl, Nat.le_of_ble_eq_true rfl⟩) hK w hA [5, 6] [0, 1, 2, 3, 4, 7, 8, 9, 10, 11, 12] [0, 1, 2, 3, 4, 11, 12, 5, 6, 7, 8, 9, 10] (by decide) rfl rfl (by decide) (by decide) rfl (by decide) rfl rfl rfl hl.1 rfl (Nat.le_of_ble_eq_true rfl) ⟨Nat.zero_le _, Nat.zero_le _⟩ (dk_at dkX5_lay 31 rfl) (fun H locs w => ?_)
              refine lv_iconst (v := 1) C.1 C.2.1 (dk_at dkX5_lay 32 rfl) (by decide) ?_
              cases hf
              exact fin _ _ _ _ _ (dk_at dkX5_lay 33 rfl) rfl w
            · have hf : _ := ((if_neg (by rw [hs]; decide)).trans (if_pos hs)).symm.trans hf
              refine r_alds (b := a_s1 0) C hK w.1 4 rfl h206 (by rw [hs]; rfl) (dk_at dkX5_lay 28 rfl) ?_
              refine lv_iload_n C.1 C.2.1 (dk_at dkX5_lay 29 rfl) rfl (lv_at hl 3 rfl) ?_
              refine lv_iload_n C.1 C.2.1 (dk_at dkX5_lay 30 rfl) rfl (lv_at hl 4 rfl) ?_
              obtain ⟨s1_209, hq210, hf⟩ := bd1_at hf
              refine r_rwv (As := [.int p2, .int p3]) (rest := []) (wr := wV g a_v a_rd a_nw a_tr a_da a_i0 a_i1 a_s0 a_s1 a_s2 a_s3 v ++ wS g a_s0 s0 ++ wS g a_s2 s2 ++ wS g a_s3 s3) (ws' := wV g a_v a_rd a_nw a_tr a_da a_i0 a_i1 a_s0 a_s1 a_s2 a_s3 v ++ wS g a_s0 s0 ++ wS g a_s1 s1_209 ++ wS g a_s2 s2 ++ wS g a_s3 s3) C (kX4_put l g _ a_s1 s1 p2 p3 s1_209 hq210) (cwV0 C (inr40 _ (List.mem_of_getElem? (i := 13) rfl)) mwX4_put hdX4_put ⟨Nat.le_of_ble_eq_true rfl, Nat.le_of_ble_eq_true rfl⟩) hK w hA [7, 8] [0, 1, 2, 3, 4, 5, 6, 9, 10, 11, 12] [0, 1, 2, 3, 4, 5, 6, 11, 12, 7, 8, 9, 10] (by decide) rfl rfl (by decide) (by decide) rfl (by decide) rfl rfl rfl hl.1 rfl (Nat.le_of_ble_eq_true rfl) ⟨Nat.zero_le _, Nat.zero_le _⟩ (dk_at dkX5_lay 31 rfl) (fun H locs w => ?_)
              refine lv_iconst (v := 1) C.1 C.2.1 (dk_at dkX5_lay 32 rfl) (by decide) ?_
              cases hf
              exact fin _ _ _ _ _ (dk_at dkX5_lay 33 rfl) rfl w
            · have hf : _ := (((if_neg (by rw [hs]; decide)).trans (if_neg (by rw [hs]; decide))).trans (if_pos hs)).symm.trans hf
              refine r_alds (b := a_s2 0) C hK w.1 4 rfl h206 (by rw [hs]; rfl) (dk_at dkX5_lay 28 rfl) ?_
              refine lv_iload_n C.1 C.2.1 (dk_at dkX5_lay 29 rfl) rfl (lv_at hl 3 rfl) ?_
              refine lv_iload_n C.1 C.2.1 (dk_at dkX5_lay 30 rfl) rfl (lv_at hl 4 rfl) ?_
              obtain ⟨s2_211, hq212, hf⟩ := bd1_at hf
              refine r_rwv (As := [.int p2, .int p3]) (rest := []) (wr := wV g a_v a_rd a_nw a_tr a_da a_i0 a_i1 a_s0 a_s1 a_s2 a_s3 v ++ wS g a_s0 s0 ++ wS g a_s1 s1 ++ wS g a_s3 s3) (ws' := wV g a_v a_rd a_nw a_tr a_da a_i0 a_i1 a_s0 a_s1 a_s2 a_s3 v ++ wS g a_s0 s0 ++ wS g a_s1 s1 ++ wS g a_s2 s2_211 ++ wS g a_s3 s3) C (kX4_put l g _ a_s2 s2 p2 p3 s2_211 hq212) (cwV0 C (inr40 _ (List.mem_of_getElem? (i := 13) rfl)) mwX4_put hdX4_put ⟨Nat.le_of_ble_eq_true rfl, Nat.le_of_ble_eq_true rfl⟩) hK w hA [9, 10] [0, 1, 2, 3, 4, 5, 6, 7, 8, 11, 12] [0, 1, 2, 3, 4, 5, 6, 7, 8, 11, 12, 9, 10] (by decide) rfl rfl (by decide) (by decide) rfl (by decide) rfl rfl rfl hl.1 rfl (Nat.le_of_ble_eq_true rfl) ⟨Nat.zero_le _, Nat.zero_le _⟩ (dk_at dkX5_lay 31 rfl) (fun H locs w => ?_)
              refine lv_iconst (v := 1) C.1 C.2.1 (dk_at dkX5_lay 32 rfl) (by decide) ?_
              cases hf
              exact fin _ _ _ _ _ (dk_at dkX5_lay 33 rfl) rfl w
            · have hf : _ := (((if_neg (by rw [hs]; decide)).trans (if_neg (by rw [hs]; decide))).trans (if_neg (by rw [hs]; decide))).symm.trans hf
              refine r_alds (b := a_s3 0) C hK w.1 4 rfl h206 (by rw [hs]; rfl) (dk_at dkX5_lay 28 rfl) ?_
              refine lv_iload_n C.1 C.2.1 (dk_at dkX5_lay 29 rfl) rfl (lv_at hl 3 rfl) ?_
              refine lv_iload_n C.1 C.2.1 (dk_at dkX5_lay 30 rfl) rfl (lv_at hl 4 rfl) ?_
              obtain ⟨s3_213, hq214, hf⟩ := bd1_at hf
              refine r_rwv (As := [.int p2, .int p3]) (rest := []) (wr := wV g a_v a_rd a_nw a_tr a_da a_i0 a_i1 a_s0 a_s1 a_s2 a_s3 v ++ wS g a_s0 s0 ++ wS g a_s1 s1 ++ wS g a_s2 s2) (ws' := wV g a_v a_rd a_nw a_tr a_da a_i0 a_i1 a_s0 a_s1 a_s2 a_s3 v ++ wS g a_s0 s0 ++ wS g a_s1 s1 ++ wS g a_s2 s2 ++ wS g a_s3 s3_213) C (kX4_put l g _ a_s3 s3 p2 p3 s3_213 hq214) (cwV0 C (inr40 _ (List.mem_of_getElem? (i := 13) rfl)) mwX4_put hdX4_put ⟨Nat.le_of_ble_eq_true rfl, Nat.le_of_ble_eq_true rfl⟩) hK w hA [11, 12] [0, 1, 2, 3, 4, 5, 6, 7, 8, 9, 10] [0, 1, 2, 3, 4, 5, 6, 7, 8, 9, 10, 11, 12] (by decide) rfl rfl (by decide) (by decide) rfl (by decide) rfl rfl rfl hl.1 rfl (Nat.le_of_ble_eq_true rfl) ⟨Nat.zero_le _, Nat.zero_le _⟩ (dk_at dkX5_lay 31 rfl) (fun H locs w => ?_)
              refine lv_iconst (v := 1) C.1 C.2.1 (dk_at dkX5_lay 32 rfl) (by decide) ?_
              cases hf
              exact fin _ _ _ _ _ (dk_at dkX5_lay 33 rfl) rfl w
          · have hf := (if_neg c205).symm.trans hf
            refine lv_bipush (v := (-10)) C.1 C.2.1 (dk_at dkX5_lay 21 rfl) (by decide) ?_
            refine lv_iload C.1 C.2.1 (dk_at dkX5_lay 22 rfl) (lv_at hl 0 rfl) ?_
            refine lv_isub C.1 C.2.1 (dk_at dkX5_lay 23 rfl) ?_
            refine lv_topi (fun x215 ex215 => ?_)
            have hf := nm_at ex215 hf
            cases hf
            exact fin _ _ _ _ _ (dk_at dkX5_lay 24 rfl) rfl w
    · have hf := (if_neg c2).symm.trans hf
      refine lv_iconst (v := (-1)) C.1 C.2.1 (dk_at dkX5_lay 5 rfl) (by decide) ?_
      cases hf
      exact fin _ _ _ _ _ (dk_at dkX5_lay 6 rfl) rfl w
-- X5.read
abbrev tbX5_read : List (Nat × Instr × Nat) := [(0, .iload_n 1, 1), (1, .ifCond .lt 29, 3), (4, .iload_n 1, 1), (5, .iconst 4, 1), (6, .if_icmp .ge 24, 3), (9, .iload_n 2, 1), (10, .ifCond .lt 20, 3), (13, .iload_n 2, 1), (14, .iconst 3, 1), (15, .if_icmp .ge 15, 3), (18, .iload 4, 2), (20, .ifCond .lt 10, 3), (23, .iload 4, 2), (25, .bipush 13, 2), (27, .if_icmp .le 5, 3), (30, .iconst (-1), 1), (31, .ireturn, 1), (32, .aload_n 0, 1), (33, .getfield 47, 3), (36, .iload_n 1, 1), (37, .aaload, 1), (38, .astore 5, 2), (40, .iconst 0, 1), (41, .istore 6, 2), (43, .iconst 0, 1), (44, .istore 7, 2), (46, .aload_n 0, 1), (47, .getfield 23, 3), (50, .aload_n 0, 1), (51, .getfield 19, 3), (54, .invokevirtual 73, 3), (57, .iconst 0, 1), (58, .istore 8, 2), (60, .iload 8, 2), (62, .iload 4, 2), (64, .if_icmp .ge 81, 3), (67, .iload 7, 2), (69, .ifCond .ne 76, 3), (72, .iload_n 3, 1), (73, .iconst 3, 1), (74, .iload 8, 2), (76, .imul, 1), (77, .iadd, 1), (78, .istore 9, 2), (80, .aload 5, 2), (82, .iload_n 2, 1), (83, .iload 9, 2), (85, .invokevirtual 248, 3), (88, .istore 7, 2), (90, .iload 7, 2), (92, .ifCond .ne 47, 3), (95, .aload_n 0, 1), (96, .getfield 23, 3), (99, .aload 5, 2), (101, .iload 9, 2), (103, .invokevirtual 251, 3), (106, .aload 5, 2), (108, .iload 9, 2), (110, .iconst 1, 1), (111, .iadd, 1), (112, .invokevirtual 251, 3), (115, .aload 5, 2), (117, .iload 9, 2), (119, .iconst 2, 1), (120, .iadd, 1), (121, .invokevirtual 251, 3), (124, .invokevirtual 136, 3), (127, .ifCond .ge 9, 3), (130, .bipush (-20), 2), (132, .iload 8, 2), (134, .isub, 1), (135, .ireturn, 1), (136, .iinc 6 1, 3), (139, .iinc 8 1, 3), (142, .goto (-82), 3), (145, .aload_n 0, 1), (146, .getfield 19, 3), (149, .aload_n 0, 1), (150, .getfield 23, 3), (153, .invokevirtual 73, 3), (156, .aload_n 0, 1), (157, .iload 7, 2), (159, .putfield 254, 3), (162, .iload 6, 2), (164, .ireturn, 1)]
theorem dkX5_read : dk cX5_read tbX5_read := dk_of (by decide +kernel)
abbrev cdX5_read : Cond := Cond.code yX5_read cX5_read 10 (some .int)
abbrev rmX5_read : Room := { frames := 3, cells := 0, slots := 0, locals := 65 }
theorem mwX5_read : Cond.instanceMethod yX5_read ∈ wsL_law ∧ Cond.selects RX5 yX5_read yX5_read ∈ wsL_law ∧ Cond.initialized RX5 ∈ wsL_law ∧ cdX5_read ∈ wsL_law := ⟨inr40 _ (List.mem_of_getElem? (i := 22) rfl), inr40 _ (List.mem_of_getElem? (i := 23) rfl), inr1 _ (List.mem_of_getElem? (i := 2) rfl), inr41 _ (List.mem_of_getElem? (i := 0) rfl)⟩
theorem hdX5_read : yX5_read.cls = RX5 ∧ yX5_read.cls ≠ "java/lang/invoke/MethodHandle" ∧ yX5_read.cls ≠ "java/lang/invoke/VarHandle" ∧ (parseMethodDescriptor yX5_read.desc).map (fun d => d.parameters.length) = some 4 := by decide +kernel
set_option maxHeartbeats 4000000 in
set_option maxRecDepth 100000 in
theorem kX5_read (l : Launch) (g : Gx) (sz : Nat) (a_v a_rd a_nw a_tr a_da a_i0 a_i1 a_s0 a_s1 a_s2 a_s3 : Nat → Nat) (v : VT) (nw : CT) (tr : CT) (s0 : ST) (s1 : ST) (s2 : ST) (s3 : ST) (p1 : Int32) (p2 : Int32) (p3 : Int32) (p4 : Int32) (res : Int32) (v_o : VT) (nw_o : CT) (tr_o : CT) (hf : fX5_read p1 p2 p3 p4 v nw tr s0 s1 s2 s3 = some (res, v_o, nw_o, tr_o)) : Met l yX5_read (cdX5_read :: wsL_law) rmX5_read (va_Pc [.ref (a_v 0), .int p1, .int p2, .int p3, .int p4] (RWp g sz (wV g a_v a_rd a_nw a_tr a_da a_i0 a_i1 a_s0 a_s1 a_s2 a_s3 v ++ wC g a_nw nw ++ wC g a_tr tr ++ wS g a_s0 s0 ++ wS g a_s1 s1 ++ wS g a_s2 s2 ++ wS g a_s3 s3))) (va_Qi (fun x (_ : Unit) => x = res) (fun _ => RWq g (va_A (wV g a_v a_rd a_nw a_tr a_da a_i0 a_i1 a_s0 a_s1 a_s2 a_s3 v ++ wC g a_nw nw ++ wC g a_tr tr ++ wS g a_s0 s0 ++ wS g a_s1 s1 ++ wS g a_s2 s2 ++ wS g a_s3 s3) sz) (wV g a_v a_rd a_nw a_tr a_da a_i0 a_i1 a_s0 a_s1 a_s2 a_s3 v_o ++ wC g a_nw nw_o ++ wC g a_tr tr_o ++ wS g a_s0 s0 ++ wS g a_s1 s1 ++ wS g a_s2 s2 ++ wS g a_s3 s3)) (va_A (wV g a_v a_rd a_nw a_tr a_da a_i0 a_i1 a_s0 a_s1 a_s2 a_s3 v ++ wC g a_nw nw ++ wC g a_tr tr ++ wS g a_s0 s0 ++ wS g a_s1 s1 ++ wS g a_s2 s2 ++ wS g a_s3 s3) sz)) 0 0 (va_A (wV g a_v a_rd a_nw a_tr a_da a_i0 a_i1 a_s0 a_s1 a_s2 a_s3 v ++ wC g a_nw nw ++ wC g a_tr tr ++ wS g a_s0 s0 ++ wS g a_s1 s1 ++ wS g a_s2 s2 ++ wS g a_s3 s3) sz) := by
  refine Met_rwi (cc := cX5_read) (maxL := 10) (by decide) rfl (Nat.le_of_ble_eq_true rfl) ?_
  intro P E Z Mi AR BE ME CO A Q C hK hA fin w ls hl
  have hl : lv_has ls 10 [(0, .ref (a_v 0)), (1, .int p1), (2, .int p2), (3, .int p3), (4, .int p4)] := hl
  unfold fX5_read at hf
  refine lv_iload_n C.1 C.2.1 (dk_at dkX5_read 0 rfl) rfl (lv_at hl 1 rfl) ?_
  refine lv_if_lt (tgt := 30) C.1 C.2.1 (dk_at dkX5_read 1 rfl) (by decide) (fun c1 => ?_) (fun c1 => ?_)
  · have hf := (if_pos c1).symm.trans hf
    refine lv_iconst (v := (-1)) C.1 C.2.1 (dk_at dkX5_read 15 rfl) (by decide) ?_
    cases hf
    exact fin _ _ _ _ _ (dk_at dkX5_read 16 rfl) rfl w
  · have hf := (if_neg c1).symm.trans hf
    refine lv_iload_n C.1 C.2.1 (dk_at dkX5_read 2 rfl) rfl (lv_at hl 1 rfl) ?_
    refine lv_iconst (v := 4) C.1 C.2.1 (dk_at dkX5_read 3 rfl) (by decide) ?_
    refine lv_icmp_ge (tgt := 30) C.1 C.2.1 (dk_at dkX5_read 4 rfl) (by decide) (fun c2 => ?_) (fun c2 => ?_)
    · have hf := (if_pos c2).symm.trans hf
      refine lv_iconst (v := (-1)) C.1 C.2.1 (dk_at dkX5_read 15 rfl) (by decide) ?_
      cases hf
      exact fin _ _ _ _ _ (dk_at dkX5_read 16 rfl) rfl w
    · have hf := (if_neg c2).symm.trans hf
      refine lv_iload_n C.1 C.2.1 (dk_at dkX5_read 5 rfl) rfl (lv_at hl 2 rfl) ?_
      refine lv_if_lt (tgt := 30) C.1 C.2.1 (dk_at dkX5_read 6 rfl) (by decide) (fun c3 => ?_) (fun c3 => ?_)
      · have hf := (if_pos c3).symm.trans hf
        refine lv_iconst (v := (-1)) C.1 C.2.1 (dk_at dkX5_read 15 rfl) (by decide) ?_
        cases hf
        exact fin _ _ _ _ _ (dk_at dkX5_read 16 rfl) rfl w
      · have hf := (if_neg c3).symm.trans hf
        refine lv_iload_n C.1 C.2.1 (dk_at dkX5_read 7 rfl) rfl (lv_at hl 2 rfl) ?_
        refine lv_iconst (v := 3) C.1 C.2.1 (dk_at dkX5_read 8 rfl) (by decide) ?_
        refine lv_icmp_ge (tgt := 30) C.1 C.2.1 (dk_at dkX5_read 9 rfl) (by decide) (fun c4 => ?_) (fun c4 => ?_)
        · have hf := (if_pos c4).symm.trans hf
          refine lv_iconst (v := (-1)) C.1 C.2.1 (dk_at dkX5_read 15 rfl) (by decide) ?_
          cases hf
          exact fin _ _ _ _ _ (dk_at dkX5_read 16 rfl) rfl w
        · have hf := (if_neg c4).symm.trans hf
          refine lv_iload C.1 C.2.1 (dk_at dkX5_read 10 rfl) (lv_at hl 4 rfl) ?_
          refine lv_if_lt (tgt := 30) C.1 C.2.1 (dk_at dkX5_read 11 rfl) (by decide) (fun c5 => ?_) (fun c5 => ?_)
          · have hf := (if_pos c5).symm.trans hf
            refine lv_iconst (v := (-1)) C.1 C.2.1 (dk_at dkX5_read 15 rfl) (by decide) ?_
            cases hf
            exact fin _ _ _ _ _ (dk_at dkX5_read 16 rfl) rfl w
          · have hf := (if_neg c5).symm.trans hf
            refine lv_iload C.1 C.2.1 (dk_at dkX5_read 12 rfl) (lv_at hl 4 rfl) ?_
            refine lv_bipush (v := 13) C.1 C.2.1 (dk_at dkX5_read 13 rfl) (by decide) ?_
            refine lv_icmp_le (tgt := 32) C.1 C.2.1 (dk_at dkX5_read 14 rfl) (by decide) (fun c6 => ?_) (fun c6 => ?_)
            · have hf := (if_pos c6).symm.trans hf
              refine lv_aload_n C.1 C.2.1 (dk_at dkX5_read 17 rfl) rfl (lv_at hl 0 rfl) ?_
              refine r_get (v := .ref (a_v 4)) C hK w.1 (fun w h => List.mem_cons_of_mem _ (inlX5 w h)) 0 rfl rfl 7 (by decide) (List.mem_cons_of_mem _ (inr2 _ (List.mem_of_getElem? (i := 7) rfl))) rfl (dk_at dkX5_read 18 rfl) ?_
              refine lv_iload_n C.1 C.2.1 (dk_at dkX5_read 19 rfl) rfl (lv_at hl 1 rfl) ?_
              obtain ⟨h7, hf⟩ := gd_at hf
              rcases lt4 (in_lt h7) with hs | hs | hs | hs
              · have hf : _ := (if_pos hs).symm.trans hf
                refine r_alds (b := a_s0 0) C hK w.1 4 rfl h7 (by rw [hs]; rfl) (dk_at dkX5_read 20 rfl) ?_
                refine lv_astore (lv' := [(5, .ref (a_s0 0)), (0, .ref (a_v 0)), (1, .int p1), (2, .int p2), (3, .int p3), (4, .int p4)]) C.1 C.2.1 (dk_at dkX5_read 21 rfl) hl (by decide) rfl (fun ls hl => ?_)
                refine lv_iconst (v := 0) C.1 C.2.1 (dk_at dkX5_read 22 rfl) (by decide) ?_
                refine lv_istore (lv' := [(6, .int 0), (5, .ref (a_s0 0)), (0, .ref (a_v 0)), (1, .int p1), (2, .int p2), (3, .int p3), (4, .int p4)]) C.1 C.2.1 (dk_at dkX5_read 23 rfl) hl (by decide) rfl (fun ls hl => ?_)
                refine lv_iconst (v := 0) C.1 C.2.1 (dk_at dkX5_read 24 rfl) (by decide) ?_
                refine lv_istore (lv' := [(7, .int 0), (6, .int 0), (5, .ref (a_s0 0)), (0, .ref (a_v 0)), (1, .int p1), (2, .int p2), (3, .int p3), (4, .int p4)]) C.1 C.2.1 (dk_at dkX5_read 25 rfl) hl (by decide) rfl (fun ls hl => ?_)
                refine lv_aload_n C.1 C.2.1 (dk_at dkX5_read 26 rfl) rfl (lv_at hl 3 rfl) ?_
                refine r_get (v := .ref (a_tr 0)) C hK w.1 (fun w h => List.mem_cons_of_mem _ (inlX5 w h)) 0 rfl rfl 2 (by decide) (List.mem_cons_of_mem _ (inr1 _ (List.mem_of_getElem? (i := 20) rfl))) rfl (dk_at dkX5_read 27 rfl) ?_
                refine lv_aload_n C.1 C.2.1 (dk_at dkX5_read 28 rfl) rfl (lv_at hl 3 rfl) ?_
                refine r_get (v := .ref (a_nw 0)) C hK w.1 (fun w h => List.mem_cons_of_mem _ (inlX5 w h)) 0 rfl rfl 1 (by decide) (List.mem_cons_of_mem _ (inr1 _ (List.mem_of_getElem? (i := 19) rfl))) rfl (dk_at dkX5_read 29 rfl) ?_
                obtain ⟨tr_8, hq9, hf⟩ := bd1_at hf
                refine r_rwv (As := [.ref (a_nw 0)]) (rest := []) (wr := wV g a_v a_rd a_nw a_tr a_da a_i0 a_i1 a_s0 a_s1 a_s2 a_s3 v ++ wS g a_s0 s0 ++ wS g a_s1 s1 ++ wS g a_s2 s2 ++ wS g a_s3 s3) (ws' := wV g a_v a_rd a_nw a_tr a_da a_i0 a_i1 a_s0 a_s1 a_s2 a_s3 v ++ wC g a_nw nw ++ wC g a_tr tr_8 ++ wS g a_s0 s0 ++ wS g a_s1 s1 ++ wS g a_s2 s2 ++ wS g a_s3 s3) C (kX0_copyTo l g _ a_tr a_nw tr nw tr_8 hq9) (cwV0 C (inr12 _ (List.mem_of_getElem? (i := 6) rfl)) mwX0_copyFrom hdX0_copyFrom ⟨Nat.le_of_ble_eq_true rfl, Nat.le_of_ble_eq_true rfl⟩) hK w hA [16, 17, 18, 19, 20, 21, 22, 23, 24, 25, 26, 5, 6, 7, 8, 9, 10, 11, 12, 13, 14, 15] [0, 1, 2, 3, 4, 27, 28, 29, 30, 31, 32, 33, 34] [0, 1, 2, 3, 4, 24, 25, 26, 27, 28, 29, 30, 31, 32, 33, 34, 13, 14, 15, 16, 17, 18, 19, 20, 21, 22, 23, 5, 6, 7, 8, 9, 10, 11, 12] (by decide) rfl rfl (by decide) (by decide) rfl (by decide) rfl rfl rfl hl.1 rfl (Nat.le_of_ble_eq_true rfl) ⟨Nat.zero_le _, Nat.zero_le _⟩ (dk_at dkX5_read 30 rfl) (fun H locs w => ?_)
                refine lv_iconst (v := 0) C.1 C.2.1 (dk_at dkX5_read 31 rfl) (by decide) ?_
                refine lv_istore (lv' := [(8, .int 0), (7, .int 0), (6, .int 0), (5, .ref (a_s0 0)), (0, .ref (a_v 0)), (1, .int p1), (2, .int p2), (3, .int p3), (4, .int p4)]) C.1 C.2.1 (dk_at dkX5_read 32 rfl) hl (by decide) rfl (fun ls hl => ?_)
                have L14 : ∀ (K : Int32 → Int32 → Int32 → CT → Option (Int32 × VT × CT × CT)), (∀ (v10 : Int32) (v11 : Int32) (v12 : Int32) (tr_13 : CT) (H : Heap) (locs : List Loc) (ls : Array Slot), Wd g A Z.heap (wV g a_v a_rd a_nw a_tr a_da a_i0 a_i1 a_s0 a_s1 a_s2 a_s3 v ++ wC g a_nw nw ++ wC g a_tr tr_13 ++ wS g a_s0 s0 ++ wS g a_s1 s1 ++ wS g a_s2 s2 ++ wS g a_s3 s3) H locs → lv_has ls 10 [(7, .int v11), (6, .int v12), (0, .ref (a_v 0))] → K v10 v11 v12 tr_13 = some (res, v_o, nw_o, tr_o) → W P l E rmX5_read Z Mi AR BE ME CO H locs 0 0 Q (F0 Mi 145 ls [])) → ∀ (n : Nat), ∀ (v10 : Int32) (v11 : Int32) (v12 : Int32) (tr_13 : CT) (H : Heap) (locs : List Loc) (ls : Array Slot), Wd g A Z.heap (wV g a_v a_rd a_nw a_tr a_da a_i0 a_i1 a_s0 a_s1 a_s2 a_s3 v ++ wC g a_nw nw ++ wC g a_tr tr_13 ++ wS g a_s0 s0 ++ wS g a_s1 s1 ++ wS g a_s2 s2 ++ wS g a_s3 s3) H locs → lv_has ls 10 [(8, .int v10), (7, .int v11), (6, .int v12), (5, .ref (a_s0 0)), (0, .ref (a_v 0)), (2, .int p2), (3, .int p3), (4, .int p4)] → fX5_read_L60 v nw s0 p2 p3 p4 K n v10 v11 v12 tr_13 = some (res, v_o, nw_o, tr_o) → W P l E rmX5_read Z Mi AR BE ME CO H locs 0 0 Q (F0 Mi 60 ls []) := by
                  intro K hKe n
                  induction n with
                  | zero => intro v10 v11 v12 tr_13 H locs ls w hl hf; cases hf
                  | succ n ih =>
                    intro v10 v11 v12 tr_13 H locs ls w hl hf
                    rw [fX5_read_L60] at hf
                    refine lv_iload C.1 C.2.1 (dk_at dkX5_read 33 rfl) (lv_at hl 0 rfl) ?_
                    refine lv_iload C.1 C.2.1 (dk_at dkX5_read 34 rfl) (lv_at hl 7 rfl) ?_
                    refine lv_icmp_ge (tgt := 145) C.1 C.2.1 (dk_at dkX5_read 35 rfl) (by decide) (fun c15 => ?_) (fun c15 => ?_)
                    · have hf := (if_pos c15).symm.trans hf
                      exact hKe v10 v11 v12 tr_13 _ _ _ w (lv_sub hl [1, 2, 4] rfl) hf
                    · have hf := (if_neg c15).symm.trans hf
                      refine lv_iload C.1 C.2.1 (dk_at dkX5_read 36 rfl) (lv_at hl 1 rfl) ?_
                      refine lv_if_ne (tgt := 145) C.1 C.2.1 (dk_at dkX5_read 37 rfl) (by decide) (fun c16 => ?_) (fun c16 => ?_)
                      · have hf := (if_neg c16).symm.trans hf
                        exact hKe v10 v11 v12 tr_13 _ _ _ w (lv_sub hl [1, 2, 4] rfl) hf
                      · have hf := (if_pos c16).symm.trans hf
                        refine lv_iload_n C.1 C.2.1 (dk_at dkX5_read 38 rfl) rfl (lv_at hl 6 rfl) ?_
                        refine lv_iconst (v := 3) C.1 C.2.1 (dk_at dkX5_read 39 rfl) (by decide) ?_
                        refine lv_iload C.1 C.2.1 (dk_at dkX5_read 40 rfl) (lv_at hl 0 rfl) ?_
                        refine lv_imul C.1 C.2.1 (dk_at dkX5_read 41 rfl) ?_
                        refine lv_iadd C.1 C.2.1 (dk_at dkX5_read 42 rfl) ?_
                        refine lv_topi (fun x17 ex17 => ?_)
                        have hf := nm_at ex17 hf
                        refine lv_istore (lv' := [(9, .int x17), (8, .int v10), (7, .int v11), (6, .int v12), (5, .ref (a_s0 0)), (0, .ref (a_v 0)), (2, .int p2), (3, .int p3), (4, .int p4)]) C.1 C.2.1 (dk_at dkX5_read 43 rfl) hl (by decide) rfl (fun ls hl => ?_)
                        refine lv_aload C.1 C.2.1 (dk_at dkX5_read 44 rfl) (lv_at hl 4 rfl) ?_
                        refine lv_iload_n C.1 C.2.1 (dk_at dkX5_read 45 rfl) rfl (lv_at hl 6 rfl) ?_
                        refine lv_iload C.1 C.2.1 (dk_at dkX5_read 46 rfl) (lv_at hl 0 rfl) ?_
                        obtain ⟨r18, hq19, hf⟩ := bd1_at hf
                        refine r_roV (As := [.int p2, .int x17]) (rest := []) C (kX4_flawOfThree l g a_s0 s0 p2 x17 r18 hq19) (cwV0 C (inr41 _ (List.mem_of_getElem? (i := 2) rfl)) mwX4_flawOfThree hdX4_flawOfThree ⟨Nat.le_of_ble_eq_true rfl, Nat.le_of_ble_eq_true rfl⟩) hK (w.1.sub [27, 28] rfl) rfl rfl rfl hl.1 rfl (Nat.le_of_ble_eq_true rfl) ⟨Nat.zero_le _, Nat.zero_le _⟩ (dk_at dkX5_read 47 rfl) ?_
                        refine lv_istore (lv' := [(7, .int r18), (9, .int x17), (8, .int v10), (6, .int v12), (5, .ref (a_s0 0)), (0, .ref (a_v 0)), (2, .int p2), (3, .int p3), (4, .int p4)]) C.1 C.2.1 (dk_at dkX5_read 48 rfl) hl (by decide) rfl (fun ls hl => ?_)
                        refine lv_iload C.1 C.2.1 (dk_at dkX5_read 49 rfl) (lv_at hl 0 rfl) ?_
                        refine lv_if_ne (tgt := 139) C.1 C.2.1 (dk_at dkX5_read 50 rfl) (by decide) (fun c20 => ?_) (fun c20 => ?_)
                        · have hf := (if_neg c20).symm.trans hf
                          obtain ⟨x21, ex21⟩ : ∃ z : Int32, z = v10 + 1 := ⟨_, rfl⟩
                          have hf := nm_at ex21 hf
                          refine lv_iinc (v := x21) (lv' := [(8, .int x21), (7, .int r18), (9, .int x17), (6, .int v12), (5, .ref (a_s0 0)), (0, .ref (a_v 0)), (2, .int p2), (3, .int p3), (4, .int p4)]) C.1 C.2.1 (dk_at dkX5_read 73 rfl) hl (k := 2) rfl (by rw [ex21]; rfl) (by decide) rfl (fun ls hl => ?_)
                          refine lv_goto (tgt := 60) C.1 C.2.1 (dk_at dkX5_read 74 rfl) (by decide) ?_
                          exact ih x21 r18 v12 tr_13 _ _ _ w (lv_sub hl [0, 1, 3, 4, 5, 6, 7, 8] rfl) hf
                        · have hf := (if_pos c20).symm.trans hf
                          refine lv_aload_n C.1 C.2.1 (dk_at dkX5_read 51 rfl) rfl (lv_at hl 5 rfl) ?_
                          refine r_get (v := .ref (a_tr 0)) C hK w.1 (fun w h => List.mem_cons_of_mem _ (inlX5 w h)) 0 rfl rfl 2 (by decide) (List.mem_cons_of_mem _ (inr1 _ (List.mem_of_getElem? (i := 20) rfl))) rfl (dk_at dkX5_read 52 rfl) ?_
                          refine lv_aload C.1 C.2.1 (dk_at dkX5_read 53 rfl) (lv_at hl 4 rfl) ?_
                          refine lv_iload C.1 C.2.1 (dk_at dkX5_read 54 rfl) (lv_at hl 1 rfl) ?_
                          obtain ⟨r22, hq23, hf⟩ := bd1_at hf
                          refine r_roV (As := [.int x17]) (rest := [.ref (a_tr 0)]) C (kX4_cellAt l g a_s0 s0 x17 r22 hq23) (cwV0 C (inr41 _ (List.mem_of_getElem? (i := 7) rfl)) mwX4_cellAt hdX4_cellAt ⟨Nat.le_of_ble_eq_true rfl, Nat.le_of_ble_eq_true rfl⟩) hK (w.1.sub [27, 28] rfl) rfl rfl rfl hl.1 rfl (Nat.le_of_ble_eq_true rfl) ⟨Nat.zero_le _, Nat.zero_le _⟩ (dk_at dkX5_read 55 rfl) ?_
                          refine lv_aload C.1 C.2.1 (dk_at dkX5_read 56 rfl) (lv_at hl 4 rfl) ?_
                          refine lv_iload C.1 C.2.1 (dk_at dkX5_read 57 rfl) (lv_at hl 1 rfl) ?_
                          refine lv_iconst (v := 1) C.1 C.2.1 (dk_at dkX5_read 58 rfl) (by decide) ?_
                          refine lv_iadd C.1 C.2.1 (dk_at dkX5_read 59 rfl) ?_
                          refine lv_topi (fun x24 ex24 => ?_)
                          have hf := nm_at ex24 hf
                          obtain ⟨r25, hq26, hf⟩ := bd1_at hf
                          refine r_roV (As := [.int x24]) (rest := [.int r22, .ref (a_tr 0)]) C (kX4_cellAt l g a_s0 s0 x24 r25 hq26) (cwV0 C (inr41 _ (List.mem_of_getElem? (i := 7) rfl)) mwX4_cellAt hdX4_cellAt ⟨Nat.le_of_ble_eq_true rfl, Nat.le_of_ble_eq_true rfl⟩) hK (w.1.sub [27, 28] rfl) rfl rfl rfl hl.1 rfl (Nat.le_of_ble_eq_true rfl) ⟨Nat.zero_le _, Nat.zero_le _⟩ (dk_at dkX5_read 60 rfl) ?_
                          refine lv_aload C.1 C.2.1 (dk_at dkX5_read 61 rfl) (lv_at hl 4 rfl) ?_
                          refine lv_iload C.1 C.2.1 (dk_at dkX5_read 62 rfl) (lv_at hl 1 rfl) ?_
                          refine lv_iconst (v := 2) C.1 C.2.1 (dk_at dkX5_read 63 rfl) (by decide) ?_
                          refine lv_iadd C.1 C.2.1 (dk_at dkX5_read 64 rfl) ?_
                          refine lv_topi (fun x27 ex27 => ?_)
                          have hf := nm_at ex27 hf
                          obtain ⟨r28, hq29, hf⟩ := bd1_at hf
                          refine r_roV (As := [.int x27]) (rest := [.int r25, .int r22, .ref (a_tr 0)]) C (kX4_cellAt l g a_s0 s0 x27 r28 hq29) (cwV0 C (inr41 _ (List.mem_of_getElem? (i := 7) rfl)) mwX4_cellAt hdX4_cellAt ⟨Nat.le_of_ble_eq_true rfl, Nat.le_of_ble_eq_true rfl⟩) hK (w.1.sub [27, 28] rfl) rfl rfl rfl hl.1 rfl (Nat.le_of_ble_eq_true rfl) ⟨Nat.zero_le _, Nat.zero_le _⟩ (dk_at dkX5_read 65 rfl) ?_
                          obtain ⟨r30, tr_31, hq32, hf⟩ := bd2_at hf
                          refine r_rwi (As := [.int r22, .int r25, .int r28]) (rest := []) (wr := wV g a_v a_rd a_nw a_tr a_da a_i0 a_i1 a_s0 a_s1 a_s2 a_s3 v ++ wC g a_nw nw ++ wS g a_s0 s0 ++ wS g a_s1 s1 ++ wS g a_s2 s2 ++ wS g a_s3 s3) (ws' := wV g a_v a_rd a_nw a_tr a_da a_i0 a_i1 a_s0 a_s1 a_s2 a_s3 v ++ wC g a_nw nw ++ wC g a_tr tr_31 ++ wS g a_s0 s0 ++ wS g a_s1 s1 ++ wS g a_s2 s2 ++ wS g a_s3 s3) C (kX0_addPlain l g _ a_tr tr_13 r22 r25 r28 r30 tr_31 hq32) (cwV0 C (inr22 _ (List.mem_of_getElem? (i := 15) rfl)) mwX0_addPlain hdX0_addPlain ⟨Nat.le_of_ble_eq_true rfl, Nat.le_of_ble_eq_true rfl⟩) hK w hA [16, 17, 18, 19, 20, 21, 22, 23, 24, 25, 26] [0, 1, 2, 3, 4, 5, 6, 7, 8, 9, 10, 11, 12, 13, 14, 15, 27, 28, 29, 30, 31, 32, 33, 34] [0, 1, 2, 3, 4, 5, 6, 7, 8, 9, 10, 11, 12, 13, 14, 15, 24, 25, 26, 27, 28, 29, 30, 31, 32, 33, 34, 16, 17, 18, 19, 20, 21, 22, 23] (by decide) rfl rfl (by decide) (by decide) rfl (by decide) rfl rfl rfl hl.1 rfl (Nat.le_of_ble_eq_true rfl) ⟨Nat.zero_le _, Nat.zero_le _⟩ (dk_at dkX5_read 66 rfl) (fun H locs w => ?_)
                          refine lv_if_ge (tgt := 136) C.1 C.2.1 (dk_at dkX5_read 67 rfl) (by decide) (fun c33 => ?_) (fun c33 => ?_)
                          · have hf := (if_pos c33).symm.trans hf
                            obtain ⟨x34, ex34⟩ : ∃ z : Int32, z = v12 + 1 := ⟨_, rfl⟩
                            have hf := nm_at ex34 hf
                            refine lv_iinc (v := x34) (lv' := [(6, .int x34), (7, .int r18), (9, .int x17), (8, .int v10), (5, .ref (a_s0 0)), (0, .ref (a_v 0)), (2, .int p2), (3, .int p3), (4, .int p4)]) C.1 C.2.1 (dk_at dkX5_read 72 rfl) hl (k := 3) rfl (by rw [ex34]; rfl) (by decide) rfl (fun ls hl => ?_)
                            obtain ⟨x35, ex35⟩ : ∃ z : Int32, z = v10 + 1 := ⟨_, rfl⟩
                            have hf := nm_at ex35 hf
                            refine lv_iinc (v := x35) (lv' := [(8, .int x35), (6, .int x34), (7, .int r18), (9, .int x17), (5, .ref (a_s0 0)), (0, .ref (a_v 0)), (2, .int p2), (3, .int p3), (4, .int p4)]) C.1 C.2.1 (dk_at dkX5_read 73 rfl) hl (k := 3) rfl (by rw [ex35]; rfl) (by decide) rfl (fun ls hl => ?_)
                            refine lv_goto (tgt := 60) C.1 C.2.1 (dk_at dkX5_read 74 rfl) (by decide) ?_
                            exact ih x35 r18 x34 tr_31 _ _ _ w (lv_sub hl [0, 2, 1, 4, 5, 6, 7, 8] rfl) hf
                          · have hf := (if_neg c33).symm.trans hf
                            refine lv_bipush (v := (-20)) C.1 C.2.1 (dk_at dkX5_read 68 rfl) (by decide) ?_
                            refine lv_iload C.1 C.2.1 (dk_at dkX5_read 69 rfl) (lv_at hl 2 rfl) ?_
                            refine lv_isub C.1 C.2.1 (dk_at dkX5_read 70 rfl) ?_
                            refine lv_topi (fun x36 ex36 => ?_)
                            have hf := nm_at ex36 hf
                            cases hf
                            exact fin _ _ _ _ _ (dk_at dkX5_read 71 rfl) rfl w
                refine L14 _ ?_ 4096 0 0 0 tr_8 _ _ _ w (lv_sub hl [0, 1, 2, 3, 4, 6, 7, 8] rfl) hf
                clear hf
                intro v10 v11 v12 tr_13 H locs ls w hl hf
                refine lv_aload_n C.1 C.2.1 (dk_at dkX5_read 75 rfl) rfl (lv_at hl 2 rfl) ?_
                refine r_get (v := .ref (a_nw 0)) C hK w.1 (fun w h => List.mem_cons_of_mem _ (inlX5 w h)) 0 rfl rfl 1 (by decide) (List.mem_cons_of_mem _ (inr1 _ (List.mem_of_getElem? (i := 19) rfl))) rfl (dk_at dkX5_read 76 rfl) ?_
                refine lv_aload_n C.1 C.2.1 (dk_at dkX5_read 77 rfl) rfl (lv_at hl 2 rfl) ?_
                refine r_get (v := .ref (a_tr 0)) C hK w.1 (fun w h => List.mem_cons_of_mem _ (inlX5 w h)) 0 rfl rfl 2 (by decide) (List.mem_cons_of_mem _ (inr1 _ (List.mem_of_getElem? (i := 20) rfl))) rfl (dk_at dkX5_read 78 rfl) ?_
                obtain ⟨nw_37, hq38, hf⟩ := bd1_at hf
                refine r_rwv (As := [.ref (a_tr 0)]) (rest := []) (wr := wV g a_v a_rd a_nw a_tr a_da a_i0 a_i1 a_s0 a_s1 a_s2 a_s3 v ++ wS g a_s0 s0 ++ wS g a_s1 s1 ++ wS g a_s2 s2 ++ wS g a_s3 s3) (ws' := wV g a_v a_rd a_nw a_tr a_da a_i0 a_i1 a_s0 a_s1 a_s2 a_s3 v ++ wC g a_nw nw_37 ++ wC g a_tr tr_13 ++ wS g a_s0 s0 ++ wS g a_s1 s1 ++ wS g a_s2 s2 ++ wS g a_s3 s3) C (kX0_copyTo l g _ a_nw a_tr nw tr_13 nw_37 hq38) (cwV0 C (inr12 _ (List.mem_of_getElem? (i := 6) rfl)) mwX0_copyFrom hdX0_copyFrom ⟨Nat.le_of_ble_eq_true rfl, Nat.le_of_ble_eq_true rfl⟩) hK w hA [5, 6, 7, 8, 9, 10, 11, 12, 13, 14, 15, 16, 17, 18, 19, 20, 21, 22, 23, 24, 25, 26] [0, 1, 2, 3, 4, 27, 28, 29, 30, 31, 32, 33, 34] [0, 1, 2, 3, 4, 13, 14, 15, 16, 17, 18, 19, 20, 21, 22, 23, 24, 25, 26, 27, 28, 29, 30, 31, 32, 33, 34, 5, 6, 7, 8, 9, 10, 11, 12] (by decide) rfl rfl (by decide) (by decide) rfl (by decide) rfl rfl rfl hl.1 rfl (Nat.le_of_ble_eq_true rfl) ⟨Nat.zero_le _, Nat.zero_le _⟩ (dk_at dkX5_read 79 rfl) (fun H locs w => ?_)
                refine lv_aload_n C.1 C.2.1 (dk_at dkX5_read 80 rfl) rfl (lv_at hl 2 rfl) ?_
                refine lv_iload C.1 C.2.1 (dk_at dkX5_read 81 rfl) (lv_at hl 0 rfl) ?_
                refine r_put (v := .int v11) C hK w (fun w h => List.mem_cons_of_mem _ (inlX5 w h)) tyX5 tyX5_ok nmX5 0 rfl rfl 8 (by decide) (List.mem_cons_of_mem _ (inr41 _ (List.mem_of_getElem? (i := 1) rfl))) rfl rfl rfl (Nat.le_of_ble_eq_true rfl) (dk_at dkX5_read 82 rfl) (fun H locs w => ?_)
                obtain ⟨v_39, ev_39⟩ : ∃ z : VT, z = vLt' v v11 := ⟨_, rfl⟩
                have hf := nm_at ev_39 hf
                have w : Wd g A Z.heap (wV g a_v a_rd a_nw a_tr a_da a_i0 a_i1 a_s0 a_s1 a_s2 a_s3 v_39 ++ wC g a_nw nw_37 ++ wC g a_tr tr_13 ++ wS g a_s0 s0 ++ wS g a_s1 s1 ++ wS g a_s2 s2 ++ wS g a_s3 s3) H locs := by rw [ev_39]; exact w
                refine lv_iload C.1 C.2.1 (dk_at dkX5_read 83 rfl) (lv_at hl 1 rfl) ?_
                cases hf
                exact fin _ _ _ _ _ (dk_at dkX5_read 84 rfl) rfl w
              · have hf : _ := ((if_neg (by rw [hs]; decide)).trans (if_pos hs)).symm.trans hf
                refine r_alds (b := a_s1 0) C hK w.1 4 rfl h7 (by rw [hs]; rfl) (dk_at dkX5_read 20 rfl) ?_
                refine lv_astore (lv' := [(5, .ref (a_s1 0)), (0, .ref (a_v 0)), (1, .int p1), (2, .int p2), (3, .int p3), (4, .int p4)]) C.1 C.2.1 (dk_at dkX5_read 21 rfl) hl (by decide) rfl (fun ls hl => ?_)
                refine lv_iconst (v := 0) C.1 C.2.1 (dk_at dkX5_read 22 rfl) (by decide) ?_
                refine lv_istore (lv' := [(6, .int 0), (5, .ref (a_s1 0)), (0, .ref (a_v 0)), (1, .int p1), (2, .int p2), (3, .int p3), (4, .int p4)]) C.1 C.2.1 (dk_at dkX5_read 23 rfl) hl (by decide) rfl (fun ls hl => ?_)
                refine lv_iconst (v := 0) C.1 C.2.1 (dk_at dkX5_read 24 rfl) (by decide) ?_
                refine lv_istore (lv' := [(7, .int 0), (6, .int 0), (5, .ref (a_s1 0)), (0, .ref (a_v 0)), (1, .int p1), (2, .int p2), (3, .int p3), (4, .int p4)]) C.1 C.2.1 (dk_at dkX5_read 25 rfl) hl (by decide) rfl (fun ls hl => ?_)
                refine lv_aload_n C.1 C.2.1 (dk_at dkX5_read 26 rfl) rfl (lv_at hl 3 rfl) ?_
                refine r_get (v := .ref (a_tr 0)) C hK w.1 (fun w h => List.mem_cons_of_mem _ (inlX5 w h)) 0 rfl rfl 2 (by decide) (List.mem_cons_of_mem _ (inr1 _ (List.mem_of_getElem? (i := 20) rfl))) rfl (dk_at dkX5_read 27 rfl) ?_
                refine lv_aload_n C.1 C.2.1 (dk_at dkX5_read 28 rfl) rfl (lv_at hl 3 rfl) ?_
                refine r_get (v := .ref (a_nw 0)) C hK w.1 (fun w h => List.mem_cons_of_mem _ (inlX5 w h)) 0 rfl rfl 1 (by decide) (List.mem_cons_of_mem _ (inr1 _ (List.mem_of_getElem? (i := 19) rfl))) rfl (dk_at dkX5_read 29 rfl) ?_
                obtain ⟨tr_40, hq41, hf⟩ := bd1_at hf
                refine r_rwv (As := [.ref (a_nw 0)]) (rest := []) (wr := wV g a_v a_rd a_nw a_tr a_da a_i0 a_i1 a_s0 a_s1 a_s2 a_s3 v ++ wS g a_s0 s0 ++ wS g a_s1 s1 ++ wS g a_s2 s2 ++ wS g a_s3 s3) (ws' := wV g a_v a_rd a_nw a_tr a_da a_i0 a_i1 a_s0 a_s1 a_s2 a_s3 v ++ wC g a_nw nw ++ wC g a_tr tr_40 ++ wS g a_s0 s0 ++ wS g a_s1 s1 ++ wS g a_s2 s2 ++ wS g a_s3 s3) C (kX0_copyTo l g _ a_tr a_nw tr nw tr_40 hq41) (cwV0 C (inr12 _ (List.mem_of_getElem? (i := 6) rfl)) mwX0_copyFrom hdX0_copyFrom ⟨Nat.le_of_ble_eq_true rfl, Nat.le_of_ble_eq_true rfl⟩) hK w hA [16, 17, 18, 19, 20, 21, 22, 23, 24, 25, 26, 5, 6, 7, 8, 9, 10, 11, 12, 13, 14, 15] [0, 1, 2, 3, 4, 27, 28, 29, 30, 31, 32, 33, 34] [0, 1, 2, 3, 4, 24, 25, 26, 27, 28, 29, 30, 31, 32, 33, 34, 13, 14, 15, 16, 17, 18, 19, 20, 21, 22, 23, 5, 6, 7, 8, 9, 10, 11, 12] (by decide) rfl rfl (by decide) (by decide) rfl (by decide) rfl rfl rfl hl.1 rfl (Nat.le_of_ble_eq_true rfl) ⟨Nat.zero_le _, Nat.zero_le _⟩ (dk_at dkX5_read 30 rfl) (fun H locs w => ?_)
                refine lv_iconst (v := 0) C.1 C.2.1 (dk_at dkX5_read 31 rfl) (by decide) ?_
                refine lv_istore (lv' := [(8, .int 0), (7, .int 0), (6, .int 0), (5, .ref (a_s1 0)), (0, .ref (a_v 0)), (1, .int p1), (2, .int p2), (3, .int p3), (4, .int p4)]) C.1 C.2.1 (dk_at dkX5_read 32 rfl) hl (by decide) rfl (fun ls hl => ?_)
                have L46 : ∀ (K : Int32 → Int32 → Int32 → CT → Option (Int32 × VT × CT × CT)), (∀ (v42 : Int32) (v43 : Int32) (v44 : Int32) (tr_45 : CT) (H : Heap) (locs : List Loc) (ls : Array Slot), Wd g A Z.heap (wV g a_v a_rd a_nw a_tr a_da a_i0 a_i1 a_s0 a_s1 a_s2 a_s3 v ++ wC g a_nw nw ++ wC g a_tr tr_45 ++ wS g a_s0 s0 ++ wS g a_s1 s1 ++ wS g a_s2 s2 ++ wS g a_s3 s3) H locs → lv_has ls 10 [(7, .int v43), (6, .int v44), (0, .ref (a_v 0))] → K v42 v43 v44 tr_45 = some (res, v_o, nw_o, tr_o) → W P l E rmX5_read Z Mi AR BE ME CO H locs 0 0 Q (F0 Mi 145 ls [])) → ∀ (n : Nat), ∀ (v42 : Int32) (v43 : Int32) (v44 : Int32) (tr_45 : CT) (H : Heap) (locs : List Loc) (ls : Array Slot), Wd g A Z.heap (wV g a_v a_rd a_nw a_tr a_da a_i0 a_i1 a_s0 a_s1 a_s2 a_s3 v ++ wC g a_nw nw ++ wC g a_tr tr_45 ++ wS g a_s0 s0 ++ wS g a_s1 s1 ++ wS g a_s2 s2 ++ wS g a_s3 s3) H locs → lv_has ls 10 [(8, .int v42), (7, .int v43), (6, .int v44), (5, .ref (a_s1 0)), (0, .ref (a_v 0)), (2, .int p2), (3, .int p3), (4, .int p4)] → fX5_read_L60b1 v nw s1 p2 p3 p4 K n v42 v43 v44 tr_45 = some (res, v_o, nw_o, tr_o) → W P l E rmX5_read Z Mi AR BE ME CO H locs 0 0 Q (F0 Mi 60 ls []) := by
                  intro K hKe n
                  induction n with
                  | zero => intro v42 v43 v44 tr_45 H locs ls w hl hf; cases hf
                  | succ n ih =>
                    intro v42 v43 v44 tr_45 H locs ls w hl hf
                    rw [fX5_read_L60b1] at hf
                    refine lv_iload C.1 C.2.1 (dk_at dkX5_read 33 rfl) (lv_at hl 0 rfl) ?_
                    refine lv_iload C.1 C.2.1 (dk_at dkX5_read 34 rfl) (lv_at hl 7 rfl) ?_
                    refine lv_icmp_ge (tgt := 145) C.1 C.2.1 (dk_at dkX5_read 35 rfl) (by decide) (fun c47 => ?_) (fun c47 => ?_)
                    · have hf := (if_pos c47).symm.trans hf
                      exact hKe v42 v43 v44 tr_45 _ _ _ w (lv_sub hl [1, 2, 4] rfl) hf
                    · have hf := (if_neg c47).symm.trans hf
                      refine lv_iload C.1 C.2.1 (dk_at dkX5_read 36 rfl) (lv_at hl 1 rfl) ?_
                      refine lv_if_ne (tgt := 145) C.1 C.2.1 (dk_at dkX5_read 37 rfl) (by decide) (fun c48 => ?_) (fun c48 => ?_)
                      · have hf := (if_neg c48).symm.trans hf
                        exact hKe v42 v43 v44 tr_45 _ _ _ w (lv_sub hl [1, 2, 4] rfl) hf
                      · have hf := (if_pos c48).symm.trans hf
                        refine lv_iload_n C.1 C.2.1 (dk_at dkX5_read 38 rfl) rfl (lv_at hl 6 rfl) ?_
                        refine lv_iconst (v := 3) C.1 C.2.1 (dk_at dkX5_read 39 rfl) (by decide) ?_
                        refine lv_iload C.1 C.2.1 (dk_at dkX5_read 40 rfl) (lv_at hl 0 rfl) ?_
                        refine lv_imul C.1 C.2.1 (dk_at dkX5_read 41 rfl) ?_
                        refine lv_iadd C.1 C.2.1 (dk_at dkX5_read 42 rfl) ?_
                        refine lv_topi (fun x49 ex49 => ?_)
                        have hf := nm_at ex49 hf
                        refine lv_istore (lv' := [(9, .int x49), (8, .int v42), (7, .int v43), (6, .int v44), (5, .ref (a_s1 0)), (0, .ref (a_v 0)), (2, .int p2), (3, .int p3), (4, .int p4)]) C.1 C.2.1 (dk_at dkX5_read 43 rfl) hl (by decide) rfl (fun ls hl => ?_)
                        refine lv_aload C.1 C.2.1 (dk_at dkX5_read 44 rfl) (lv_at hl 4 rfl) ?_
                        refine lv_iload_n C.1 C.2.1 (dk_at dkX5_read 45 rfl) rfl (lv_at hl 6 rfl) ?_
                        refine lv_iload C.1 C.2.1 (dk_at dkX5_read 46 rfl) (lv_at hl 0 rfl) ?_
                        obtain ⟨r50, hq51, hf⟩ := bd1_at hf
                        refine r_roV (As := [.int p2, .int x49]) (rest := []) C (kX4_flawOfThree l g a_s1 s1 p2 x49 r50 hq51) (cwV0 C (inr41 _ (List.mem_of_getElem? (i := 2) rfl)) mwX4_flawOfThree hdX4_flawOfThree ⟨Nat.le_of_ble_eq_true rfl, Nat.le_of_ble_eq_true rfl⟩) hK (w.1.sub [29, 30] rfl) rfl rfl rfl hl.1 rfl (Nat.le_of_ble_eq_true rfl) ⟨Nat.zero_le _, Nat.zero_le _⟩ (dk_at dkX5_read 47 rfl) ?_
                        refine lv_istore (lv' := [(7, .int r50), (9, .int x49), (8, .int v42), (6, .int v44), (5, .ref (a_s1 0)), (0, .ref (a_v 0)), (2, .int p2), (3, .int p3), (4, .int p4)]) C.1 C.2.1 (dk_at dkX5_read 48 rfl) hl (by decide) rfl (fun ls hl => ?_)
                        refine lv_iload C.1 C.2.1 (dk_at dkX5_read 49 rfl) (lv_at hl 0 rfl) ?_
                        refine lv_if_ne (tgt := 139) C.1 C.2.1 (dk_at dkX5_read 50 rfl) (by decide) (fun c52 => ?_) (fun c52 => ?_)
                        · have hf := (if_neg c52).symm.trans hf
                          obtain ⟨x53, ex53⟩ : ∃ z : Int32, z = v42 + 1 := ⟨_, rfl⟩
                          have hf := nm_at ex53 hf
                          refine lv_iinc (v := x53) (lv' := [(8, .int x53), (7, .int r50), (9, .int x49), (6, .int v44), (5, .ref (a_s1 0)), (0, .ref (a_v 0)), (2, .int p2), (3, .int p3), (4, .int p4)]) C.1 C.2.1 (dk_at dkX5_read 73 rfl) hl (k := 2) rfl (by rw [ex53]; rfl) (by decide) rfl (fun ls hl => ?_)
                          refine lv_goto (tgt := 60) C.1 C.2.1 (dk_at dkX5_read 74 rfl) (by decide) ?_
                          exact ih x53 r50 v44 tr_45 _ _ _ w (lv_sub hl [0, 1, 3, 4, 5, 6, 7, 8] rfl) hf
                        · have hf := (if_pos c52).symm.trans hf
                          refine lv_aload_n C.1 C.2.1 (dk_at dkX5_read 51 rfl) rfl (lv_at hl 5 rfl) ?_
                          refine r_get (v := .ref (a_tr 0)) C hK w.1 (fun w h => List.mem_cons_of_mem _ (inlX5 w h)) 0 rfl rfl 2 (by decide) (List.mem_cons_of_mem _ (inr1 _ (List.mem_of_getElem? (i := 20) rfl))) rfl (dk_at dkX5_read 52 rfl) ?_
                          refine lv_aload C.1 C.2.1 (dk_at dkX5_read 53 rfl) (lv_at hl 4 rfl) ?_
                          refine lv_iload C.1 C.2.1 (dk_at dkX5_read 54 rfl) (lv_at hl 1 rfl) ?_
                          obtain ⟨r54, hq55, hf⟩ := bd1_at hf
                          refine r_roV (As := [.int x49]) (rest := [.ref (a_tr 0)]) C (kX4_cellAt l g a_s1 s1 x49 r54 hq55) (cwV0 C (inr41 _ (List.mem_of_getElem? (i := 7) rfl)) mwX4_cellAt hdX4_cellAt ⟨Nat.le_of_ble_eq_true rfl, Nat.le_of_ble_eq_true rfl⟩) hK (w.1.sub [29, 30] rfl) rfl rfl rfl hl.1 rfl (Nat.le_of_ble_eq_true rfl) ⟨Nat.zero_le _, Nat.zero_le _⟩ (dk_at dkX5_read 55 rfl) ?_
                          refine lv_aload C.1 C.2.1 (dk_at dkX5_read 56 rfl) (lv_at hl 4 rfl) ?_
                          refine lv_iload C.1 C.2.1 (dk_at dkX5_read 57 rfl) (lv_at hl 1 rfl) ?_
                          refine lv_iconst (v := 1) C.1 C.2.1 (dk_at dkX5_read 58 rfl) (by decide) ?_
                          refine lv_iadd C.1 C.2.1 (dk_at dkX5_read 59 rfl) ?_
                          refine lv_topi (fun x56 ex56 => ?_)
                          have hf := nm_at ex56 hf
                          obtain ⟨r57, hq58, hf⟩ := bd1_at hf
                          refine r_roV (As := [.int x56]) (rest := [.int r54, .ref (a_tr 0)]) C (kX4_cellAt l g a_s1 s1 x56 r57 hq58) (cwV0 C (inr41 _ (List.mem_of_getElem? (i := 7) rfl)) mwX4_cellAt hdX4_cellAt ⟨Nat.le_of_ble_eq_true rfl, Nat.le_of_ble_eq_true rfl⟩) hK (w.1.sub [29, 30] rfl) rfl rfl rfl hl.1 rfl (Nat.le_of_ble_eq_true rfl) ⟨Nat.zero_le _, Nat.zero_le _⟩ (dk_at dkX5_read 60 rfl) ?_
                          refine lv_aload C.1 C.2.1 (dk_at dkX5_read 61 rfl) (lv_at hl 4 rfl) ?_
                          refine lv_iload C.1 C.2.1 (dk_at dkX5_read 62 rfl) (lv_at hl 1 rfl) ?_
                          refine lv_iconst (v := 2) C.1 C.2.1 (dk_at dkX5_read 63 rfl) (by decide) ?_
                          refine lv_iadd C.1 C.2.1 (dk_at dkX5_read 64 rfl) ?_
                          refine lv_topi (fun x59 ex59 => ?_)
                          have hf := nm_at ex59 hf
                          obtain ⟨r60, hq61, hf⟩ := bd1_at hf
                          refine r_roV (As := [.int x59]) (rest := [.int r57, .int r54, .ref (a_tr 0)]) C (kX4_cellAt l g a_s1 s1 x59 r60 hq61) (cwV0 C (inr41 _ (List.mem_of_getElem? (i := 7) rfl)) mwX4_cellAt hdX4_cellAt ⟨Nat.le_of_ble_eq_true rfl, Nat.le_of_ble_eq_true rfl⟩) hK (w.1.sub [29, 30] rfl) rfl rfl rfl hl.1 rfl (Nat.le_of_ble_eq_true rfl) ⟨Nat.zero_le _, Nat.zero_le _⟩ (dk_at dkX5_read 65 rfl) ?_
                          obtain ⟨r62, tr_63, hq64, hf⟩ := bd2_at hf
                          refine r_rwi (As := [.int r54, .int r57, .int r60]) (rest := []) (wr := wV g a_v a_rd a_nw a_tr a_da a_i0 a_i1 a_s0 a_s1 a_s2 a_s3 v ++ wC g a_nw nw ++ wS g a_s0 s0 ++ wS g a_s1 s1 ++ wS g a_s2 s2 ++ wS g a_s3 s3) (ws' := wV g a_v a_rd a_nw a_tr a_da a_i0 a_i1 a_s0 a_s1 a_s2 a_s3 v ++ wC g a_nw nw ++ wC g a_tr tr_63 ++ wS g a_s0 s0 ++ wS g a_s1 s1 ++ wS g a_s2 s2 ++ wS g a_s3 s3) C (kX0_addPlain l g _ a_tr tr_45 r54 r57 r60 r62 tr_63 hq64) (cwV0 C (inr22 _ (List.mem_of_getElem? (i := 15) rfl)) mwX0_addPlain hdX0_addPlain ⟨Nat.le_of_ble_eq_true rfl, Nat.le_of_ble_eq_true rfl⟩) hK w hA [16, 17, 18, 19, 20, 21, 22, 23, 24, 25, 26] [0, 1, 2, 3, 4, 5, 6, 7, 8, 9, 10, 11, 12, 13, 14, 15, 27, 28, 29, 30, 31, 32, 33, 34] [0, 1, 2, 3, 4, 5, 6, 7, 8, 9, 10, 11, 12, 13, 14, 15, 24, 25, 26, 27, 28, 29, 30, 31, 32, 33, 34, 16, 17, 18, 19, 20, 21, 22, 23] (by decide) rfl rfl (by decide) (by decide) rfl (by decide) rfl rfl rfl hl.1 rfl (Nat.le_of_ble_eq_true rfl) ⟨Nat.zero_le _, Nat.zero_le _⟩ (dk_at dkX5_read 66 rfl) (fun H locs w => ?_)
                          refine lv_if_ge (tgt := 136) C.1 C.2.1 (dk_at dkX5_read 67 rfl) (by decide) (fun c65 => ?_) (fun c65 => ?_)
                          · have hf := (if_pos c65).symm.trans hf
                            obtain ⟨x66, ex66⟩ : ∃ z : Int32, z = v44 + 1 := ⟨_, rfl⟩
                            have hf := nm_at ex66 hf
                            refine lv_iinc (v := x66) (lv' := [(6, .int x66), (7, .int r50), (9, .int x49), (8, .int v42), (5, .ref (a_s1 0)), (0, .ref (a_v 0)), (2, .int p2), (3, .int p3), (4, .int p4)]) C.1 C.2.1 (dk_at dkX5_read 72 rfl) hl (k := 3) rfl (by rw [ex66]; rfl) (by decide) rfl (fun ls hl => ?_)
                            obtain ⟨x67, ex67⟩ : ∃ z : Int32, z = v42 + 1 := ⟨_, rfl⟩
                            have hf := nm_at ex67 hf
                            refine lv_iinc (v := x67) (lv' := [(8, .int x67), (6, .int x66), (7, .int r50), (9, .int x49), (5, .ref (a_s1 0)), (0, .ref (a_v 0)), (2, .int p2), (3, .int p3), (4, .int p4)]) C.1 C.2.1 (dk_at dkX5_read 73 rfl) hl (k := 3) rfl (by rw [ex67]; rfl) (by decide) rfl (fun ls hl => ?_)
                            refine lv_goto (tgt := 60) C.1 C.2.1 (dk_at dkX5_read 74 rfl) (by decide) ?_
                            exact ih x67 r50 x66 tr_63 _ _ _ w (lv_sub hl [0, 2, 1, 4, 5, 6, 7, 8] rfl) hf
                          · have hf := (if_neg c65).symm.trans hf
                            refine lv_bipush (v := (-20)) C.1 C.2.1 (dk_at dkX5_read 68 rfl) (by decide) ?_
                            refine lv_iload C.1 C.2.1 (dk_at dkX5_read 69 rfl) (lv_at hl 2 rfl) ?_
                            refine lv_isub C.1 C.2.1 (dk_at dkX5_read 70 rfl) ?_
                            refine lv_topi (fun x68 ex68 => ?_)
                            have hf := nm_at ex68 hf
                            cases hf
                            exact fin _ _ _ _ _ (dk_at dkX5_read 71 rfl) rfl w
                refine L46 _ ?_ 4096 0 0 0 tr_40 _ _ _ w (lv_sub hl [0, 1, 2, 3, 4, 6, 7, 8] rfl) hf
                clear hf
                intro v42 v43 v44 tr_45 H locs ls w hl hf
                refine lv_aload_n C.1 C.2.1 (dk_at dkX5_read 75 rfl) rfl (lv_at hl 2 rfl) ?_
                refine r_get (v := .ref (a_nw 0)) C hK w.1 (fun w h => List.mem_cons_of_mem _ (inlX5 w h)) 0 rfl rfl 1 (by decide) (List.mem_cons_of_mem _ (inr1 _ (List.mem_of_getElem? (i := 19) rfl))) rfl (dk_at dkX5_read 76 rfl) ?_
                refine lv_aload_n C.1 C.2.1 (dk_at dkX5_read 77 rfl) rfl (lv_at hl 2 rfl) ?_
                refine r_get (v := .ref (a_tr 0)) C hK w.1 (fun w h => List.mem_cons_of_mem _ (inlX5 w h)) 0 rfl rfl 2 (by decide) (List.mem_cons_of_mem _ (inr1 _ (List.mem_of_getElem? (i := 20) rfl))) rfl (dk_at dkX5_read 78 rfl) ?_
                obtain ⟨nw_69, hq70, hf⟩ := bd1_at hf
                refine r_rwv (As := [.ref (a_tr 0)]) (rest := []) (wr := wV g a_v a_rd a_nw a_tr a_da a_i0 a_i1 a_s0 a_s1 a_s2 a_s3 v ++ wS g a_s0 s0 ++ wS g a_s1 s1 ++ wS g a_s2 s2 ++ wS g a_s3 s3) (ws' := wV g a_v a_rd a_nw a_tr a_da a_i0 a_i1 a_s0 a_s1 a_s2 a_s3 v ++ wC g a_nw nw_69 ++ wC g a_tr tr_45 ++ wS g a_s0 s0 ++ wS g a_s1 s1 ++ wS g a_s2 s2 ++ wS g a_s3 s3) C (kX0_copyTo l g _ a_nw a_tr nw tr_45 nw_69 hq70) (cwV0 C (inr12 _ (List.mem_of_getElem? (i := 6) rfl)) mwX0_copyFrom hdX0_copyFrom ⟨Nat.le_of_ble_eq_true rfl, Nat.le_of_ble_eq_true rfl⟩) hK w hA [5, 6, 7, 8, 9, 10, 11, 12, 13, 14, 15, 16, 17, 18, 19, 20, 21, 22, 23, 24, 25, 26] [0, 1, 2, 3, 4, 27, 28, 29, 30, 31, 32, 33, 34] [0, 1, 2, 3, 4, 13, 14, 15, 16, 17, 18, 19, 20, 21, 22, 23, 24, 25, 26, 27, 28, 29, 30, 31, 32, 33, 34, 5, 6, 7, 8, 9, 10, 11, 12] (by decide) rfl rfl (by decide) (by decide) rfl (by decide) rfl rfl rfl hl.1 rfl (Nat.le_of_ble_eq_true rfl) ⟨Nat.zero_le _, Nat.zero_le _⟩ (dk_at dkX5_read 79 rfl) (fun H locs w => ?_)
                refine lv_aload_n C.1 C.2.1 (dk_at dkX5_read 80 rfl) rfl (lv_at hl 2 rfl) ?_
                refine lv_iload C.1 C.2.1 (dk_at dkX5_read 81 rfl) (lv_at hl 0 rfl) ?_
                refine r_put (v := .int v43) C hK w (fun w h => List.mem_cons_of_mem _ (inlX5 w h)) tyX5 tyX5_ok nmX5 0 rfl rfl 8 (by decide) (List.mem_cons_of_mem _ (inr41 _ (List.mem_of_getElem? (i := 1) rfl))) rfl rfl rfl (Nat.le_of_ble_eq_true rfl) (dk_at dkX5_read 82 rfl) (fun H locs w => ?_)
                obtain ⟨v_71, ev_71⟩ : ∃ z : VT, z = vLt' v v43 := ⟨_, rfl⟩
                have hf := nm_at ev_71 hf
                have w : Wd g A Z.heap (wV g a_v a_rd a_nw a_tr a_da a_i0 a_i1 a_s0 a_s1 a_s2 a_s3 v_71 ++ wC g a_nw nw_69 ++ wC g a_tr tr_45 ++ wS g a_s0 s0 ++ wS g a_s1 s1 ++ wS g a_s2 s2 ++ wS g a_s3 s3) H locs := by rw [ev_71]; exact w
                refine lv_iload C.1 C.2.1 (dk_at dkX5_read 83 rfl) (lv_at hl 1 rfl) ?_
                cases hf
                exact fin _ _ _ _ _ (dk_at dkX5_read 84 rfl) rfl w
              · have hf : _ := (((if_neg (by rw [hs]; decide)).trans (if_neg (by rw [hs]; decide))).trans (if_pos hs)).symm.trans hf
                refine r_alds (b := a_s2 0) C hK w.1 4 rfl h7 (by rw [hs]; rfl) (dk_at dkX5_read 20 rfl) ?_
                refine lv_astore (lv' := [(5, .ref (a_s2 0)), (0, .ref (a_v 0)), (1, .int p1), (2, .int p2), (3, .int p3), (4, .int p4)]) C.1 C.2.1 (dk_at dkX5_read 21 rfl) hl (by decide) rfl (fun ls hl => ?_)
                refine lv_iconst (v := 0) C.1 C.2.1 (dk_at dkX5_read 22 rfl) (by decide) ?_
                refine lv_istore (lv' := [(6, .int 0), (5, .ref (a_s2 0)), (0, .ref (a_v 0)), (1, .int p1), (2, .int p2), (3, .int p3), (4, .int p4)]) C.1 C.2.1 (dk_at dkX5_read 23 rfl) hl (by decide) rfl (fun ls hl => ?_)
                refine lv_iconst (v := 0) C.1 C.2.1 (dk_at dkX5_read 24 rfl) (by decide) ?_
                refine lv_istore (lv' := [(7, .int 0), (6, .int 0), (5, .ref (a_s2 0)), (0, .ref (a_v 0)), (1, .int p1), (2, .int p2), (3, .int p3), (4, .int p4)]) C.1 C.2.1 (dk_at dkX5_read 25 rfl) hl (by decide) rfl (fun ls hl => ?_)
                refine lv_aload_n C.1 C.2.1 (dk_at dkX5_read 26 rfl) rfl (lv_at hl 3 rfl) ?_
                refine r_get (v := .ref (a_tr 0)) C hK w.1 (fun w h => List.mem_cons_of_mem _ (inlX5 w h)) 0 rfl rfl 2 (by decide) (List.mem_cons_of_mem _ (inr1 _ (List.mem_of_getElem? (i := 20) rfl))) rfl (dk_at dkX5_read 27 rfl) ?_
                refine lv_aload_n C.1 C.2.1 (dk_at dkX5_read 28 rfl) rfl (lv_at hl 3 rfl) ?_
                refine r_get (v := .ref (a_nw 0)) C hK w.1 (fun w h => List.mem_cons_of_mem _ (inlX5 w h)) 0 rfl rfl 1 (by decide) (List.mem_cons_of_mem _ (inr1 _ (List.mem_of_getElem? (i := 19) rfl))) rfl (dk_at dkX5_read 29 rfl) ?_
                obtain ⟨tr_72, hq73, hf⟩ := bd1_at hf
                refine r_rwv (As := [.ref (a_nw 0)]) (rest := []) (wr := wV g a_v a_rd a_nw a_tr a_da a_i0 a_i1 a_s0 a_s1 a_s2 a_s3 v ++ wS g a_s0 s0 ++ wS g a_s1 s1 ++ wS g a_s2 s2 ++ wS g a_s3 s3) (ws' := wV g a_v a_rd a_nw a_tr a_da a_i0 a_i1 a_s0 a_s1 a_s2 a_s3 v ++ wC g a_nw nw ++ wC g a_tr tr_72 ++ wS g a_s0 s0 ++ wS g a_s1 s1 ++ wS g a_s2 s2 ++ wS g a_s3 s3) C (kX0_copyTo l g _ a_tr a_nw tr nw tr_72 hq73) (cwV0 C (inr12 _ (List.mem_of_getElem? (i := 6) rfl)) mwX0_copyFrom hdX0_copyFrom ⟨Nat.le_of_ble_eq_true rfl, Nat.le_of_ble_eq_true rfl⟩) hK w hA [16, 17, 18, 19, 20, 21, 22, 23, 24, 25, 26, 5, 6, 7, 8, 9, 10, 11, 12, 13, 14, 15] [0, 1, 2, 3, 4, 27, 28, 29, 30, 31, 32, 33, 34] [0, 1, 2, 3, 4, 24, 25, 26, 27, 28, 29, 30, 31, 32, 33, 34, 13, 14, 15, 16, 17, 18, 19, 20, 21, 22, 23, 5, 6, 7, 8, 9, 10, 11, 12] (by decide) rfl rfl (by decide) (by decide) rfl (by decide) rfl rfl rfl hl.1 rfl (Nat.le_of_ble_eq_true rfl) ⟨Nat.zero_le _, Nat.zero_le _⟩ (dk_at dkX5_read 30 rfl) (fun H locs w => ?_)
                refine lv_iconst (v := 0) C.1 C.2.1 (dk_at dkX5_read 31 rfl) (by decide) ?_
                refine lv_istore (lv' := [(8, .int 0), (7, .int 0), (6, .int 0), (5, .ref (a_s2 0)), (0, .ref (a_v 0)), (1, .int p1), (2, .int p2), (3, .int p3), (4, .int p4)]) C.1 C.2.1 (dk_at dkX5_read 32 rfl) hl (by decide) rfl (fun ls hl => ?_)
                have L78 : ∀ (K : Int32 → Int32 → Int32 → CT → Option (Int32 × VT × CT × CT)), (∀ (v74 : Int32) (v75 : Int32) (v76 : Int32) (tr_77 : CT) (H : Heap) (locs : List Loc) (ls : Array Slot), Wd g A Z.heap (wV g a_v a_rd a_nw a_tr a_da a_i0 a_i1 a_s0 a_s1 a_s2 a_s3 v ++ wC g a_nw nw ++ wC g a_tr tr_77 ++ wS g a_s0 s0 ++ wS g a_s1 s1 ++ wS g a_s2 s2 ++ wS g a_s3 s3) H locs → lv_has ls 10 [(7, .int v75), (6, .int v76), (0, .ref (a_v 0))] → K v74 v75 v76 tr_77 = some (res, v_o, nw_o, tr_o) → W P l E rmX5_read Z Mi AR BE ME CO H locs 0 0 Q (F0 Mi 145 ls [])) → ∀ (n : Nat), ∀ (v74 : Int32) (v75 : Int32) (v76 : Int32) (tr_77 : CT) (H : Heap) (locs : List Loc) (ls : Array Slot), Wd g A Z.heap (wV g a_v a_rd a_nw a_tr a_da a_i0 a_i1 a_s0 a_s1 a_s2 a_s3 v ++ wC g a_nw nw ++ wC g a_tr tr_77 ++ wS g a_s0 s0 ++ wS g a_s1 s1 ++ wS g a_s2 s2 ++ wS g a_s3 s3) H locs → lv_has ls 10 [(8, .int v74), (7, .int v75), (6, .int v76), (5, .ref (a_s2 0)), (0, .ref (a_v 0)), (2, .int p2), (3, .int p3), (4, .int p4)] → fX5_read_L60b2 v nw s2 p2 p3 p4 K n v74 v75 v76 tr_77 = some (res, v_o, nw_o, tr_o) → W P l E rmX5_read Z Mi AR BE ME CO H locs 0 0 Q (F0 Mi 60 ls []) := by
                  intro K hKe n
                  induction n with
                  | zero => intro v74 v75 v76 tr_77 H locs ls w hl hf; cases hf
                  | succ n ih =>
                    intro v74 v75 v76 tr_77 H locs ls w hl hf
                    rw [fX5_read_L60b2] at hf
                    refine lv_iload C.1 C.2.1 (dk_at dkX5_read 33 rfl) (lv_at hl 0 rfl) ?_
                    refine lv_iload C.1 C.2.1 (dk_at dkX5_read 34 rfl) (lv_at hl 7 rfl) ?_
                    refine lv_icmp_ge (tgt := 145) C.1 C.2.1 (dk_at dkX5_read 35 rfl) (by decide) (fun c79 => ?_) (fun c79 => ?_)
                    · have hf := (if_pos c79).symm.trans hf
                      exact hKe v74 v75 v76 tr_77 _ _ _ w (lv_sub hl [1, 2, 4] rfl) hf
                    · have hf := (if_neg c79).symm.trans hf
                      refine lv_iload C.1 C.2.1 (dk_at dkX5_read 36 rfl) (lv_at hl 1 rfl) ?_
                      refine lv_if_ne (tgt := 145) C.1 C.2.1 (dk_at dkX5_read 37 rfl) (by decide) (fun c80 => ?_) (fun c80 => ?_)
                      · have hf := (if_neg c80).symm.trans hf
                        exact hKe v74 v75 v76 tr_77 _ _ _ w (lv_sub hl [1, 2, 4] rfl) hf
                      · have hf := (if_pos c80).symm.trans hf
                        refine lv_iload_n C.1 C.2.1 (dk_at dkX5_read 38 rfl) rfl (lv_at hl 6 rfl) ?_
                        refine lv_iconst (v := 3) C.1 C.2.1 (dk_at dkX5_read 39 rfl) (by decide) ?_
                        refine lv_iload C.1 C.2.1 (dk_at dkX5_read 40 rfl) (lv_at hl 0 rfl) ?_
                        refine lv_imul C.1 C.2.1 (dk_at dkX5_read 41 rfl) ?_
                        refine lv_iadd C.1 C.2.1 (dk_at dkX5_read 42 rfl) ?_
                        refine lv_topi (fun x81 ex81 => ?_)
                        have hf := nm_at ex81 hf
                        refine lv_istore (lv' := [(9, .int x81), (8, .int v74), (7, .int v75), (6, .int v76), (5, .ref (a_s2 0)), (0, .ref (a_v 0)), (2, .int p2), (3, .int p3), (4, .int p4)]) C.1 C.2.1 (dk_at dkX5_read 43 rfl) hl (by decide) rfl (fun ls hl => ?_)
                        refine lv_aload C.1 C.2.1 (dk_at dkX5_read 44 rfl) (lv_at hl 4 rfl) ?_
                        refine lv_iload_n C.1 C.2.1 (dk_at dkX5_read 45 rfl) rfl (lv_at hl 6 rfl) ?_
                        refine lv_iload C.1 C.2.1 (dk_at dkX5_read 46 rfl) (lv_at hl 0 rfl) ?_
                        obtain ⟨r82, hq83, hf⟩ := bd1_at hf
                        refine r_roV (As := [.int p2, .int x81]) (rest := []) C (kX4_flawOfThree l g a_s2 s2 p2 x81 r82 hq83) (cwV0 C (inr41 _ (List.mem_of_getElem? (i := 2) rfl)) mwX4_flawOfThree hdX4_flawOfThree ⟨Nat.le_of_ble_eq_true rfl, Nat.le_of_ble_eq_true rfl⟩) hK (w.1.sub [31, 32] rfl) rfl rfl rfl hl.1 rfl (Nat.le_of_ble_eq_true rfl) ⟨Nat.zero_le _, Nat.zero_le _⟩ (dk_at dkX5_read 47 rfl) ?_
                        refine lv_istore (lv' := [(7, .int r82), (9, .int x81), (8, .int v74), (6, .int v76), (5, .ref (a_s2 0)), (0, .ref (a_v 0)), (2, .int p2), (3, .int p3), (4, .int p4)]) C.1 C.2.1 (dk_at dkX5_read 48 rfl) hl (by decide) rfl (fun ls hl => ?_)
                        refine lv_iload C.1 C.2.1 (dk_at dkX5_read 49 rfl) (lv_at hl 0 rfl) ?_
                        refine lv_if_ne (tgt := 139) C.1 C.2.1 (dk_at dkX5_read 50 rfl) (by decide) (fun c84 => ?_) (fun c84 => ?_)
                        · have hf := (if_neg c84).symm.trans hf
                          obtain ⟨x85, ex85⟩ : ∃ z : Int32, z = v74 + 1 := ⟨_, rfl⟩
                          have hf := nm_at ex85 hf
                          refine lv_iinc (v := x85) (lv' := [(8, .int x85), (7, .int r82), (9, .int x81), (6, .int v76), (5, .ref (a_s2 0)), (0, .ref (a_v 0)), (2, .int p2), (3, .int p3), (4, .int p4)]) C.1 C.2.1 (dk_at dkX5_read 73 rfl) hl (k := 2) rfl (by rw [ex85]; rfl) (by decide) rfl (fun ls hl => ?_)
                          refine lv_goto (tgt := 60) C.1 C.2.1 (dk_at dkX5_read 74 rfl) (by decide) ?_
                          exact ih x85 r82 v76 tr_77 _ _ _ w (lv_sub hl [0, 1, 3, 4, 5, 6, 7, 8] rfl) hf
                        · have hf := (if_pos c84).symm.trans hf
                          refine lv_aload_n C.1 C.2.1 (dk_at dkX5_read 51 rfl) rfl (lv_at hl 5 rfl) ?_
                          refine r_get (v := .ref (a_tr 0)) C hK w.1 (fun w h => List.mem_cons_of_mem _ (inlX5 w h)) 0 rfl rfl 2 (by decide) (List.mem_cons_of_mem _ (inr1 _ (List.mem_of_getElem? (i := 20) rfl))) rfl (dk_at dkX5_read 52 rfl) ?_
                          refine lv_aload C.1 C.2.1 (dk_at dkX5_read 53 rfl) (lv_at hl 4 rfl) ?_
                          refine lv_iload C.1 C.2.1 (dk_at dkX5_read 54 rfl) (lv_at hl 1 rfl) ?_
                          obtain ⟨r86, hq87, hf⟩ := bd1_at hf
                          refine r_roV (As := [.int x81]) (rest := [.ref (a_tr 0)]) C (kX4_cellAt l g a_s2 s2 x81 r86 hq87) (cwV0 C (inr41 _ (List.mem_of_getElem? (i := 7) rfl)) mwX4_cellAt hdX4_cellAt ⟨Nat.le_of_ble_eq_true rfl, Nat.le_of_ble_eq_true rfl⟩) hK (w.1.sub [31, 32] rfl) rfl rfl rfl hl.1 rfl (Nat.le_of_ble_eq_true rfl) ⟨Nat.zero_le _, Nat.zero_le _⟩ (dk_at dkX5_read 55 rfl) ?_
                          refine lv_aload C.1 C.2.1 (dk_at dkX5_read 56 rfl) (lv_at hl 4 rfl) ?_
                          refine lv_iload C.1 C.2.1 (dk_at dkX5_read 57 rfl) (lv_at hl 1 rfl) ?_
                          refine lv_iconst (v := 1) C.1 C.2.1 (dk_at dkX5_read 58 rfl) (by decide) ?_
                          refine lv_iadd C.1 C.2.1 (dk_at dkX5_read 59 rfl) ?_
                          refine lv_topi (fun x88 ex88 => ?_)
                          have hf := nm_at ex88 hf
                          obtain ⟨r89, hq90, hf⟩ := bd1_at hf
                          refine r_roV (As := [.int x88]) (rest := [.int r86, .ref (a_tr 0)]) C (kX4_cellAt l g a_s2 s2 x88 r89 hq90) (cwV0 C (inr41 _ (List.mem_of_getElem? (i := 7) rfl)) mwX4_cellAt hdX4_cellAt ⟨Nat.le_of_ble_eq_true rfl, Nat.le_of_ble_eq_true rfl⟩) hK (w.1.sub [31, 32] rfl) rfl rfl rfl hl.1 rfl (Nat.le_of_ble_eq_true rfl) ⟨Nat.zero_le _, Nat.zero_le _⟩ (dk_at dkX5_read 60 rfl) ?_
                          refine lv_aload C.1 C.2.1 (dk_at dkX5_read 61 rfl) (lv_at hl 4 rfl) ?_
                          refine lv_iload C.1 C.2.1 (dk_at dkX5_read 62 rfl) (lv_at hl 1 rfl) ?_
                          refine lv_iconst (v := 2) C.1 C.2.1 (dk_at dkX5_read 63 rfl) (by decide) ?_
                          refine lv_iadd C.1 C.2.1 (dk_at dkX5_read 64 rfl) ?_
                          refine lv_topi (fun x91 ex91 => ?_)
                          have hf := nm_at ex91 hf
                          obtain ⟨r92, hq93, hf⟩ := bd1_at hf
                          refine r_roV (As := [.int x91]) (rest := [.int r89, .int r86, .ref (a_tr 0)]) C (kX4_cellAt l g a_s2 s2 x91 r92 hq93) (cwV0 C (inr41 _ (List.mem_of_getElem? (i := 7) rfl)) mwX4_cellAt hdX4_cellAt ⟨Nat.le_of_ble_eq_true rfl, Nat.le_of_ble_eq_true rfl⟩) hK (w.1.sub [31, 32] rfl) rfl rfl rfl hl.1 rfl (Nat.le_of_ble_eq_true rfl) ⟨Nat.zero_le _, Nat.zero_le _⟩ (dk_at dkX5_read 65 rfl) ?_
                          obtain ⟨r94, tr_95, hq96, hf⟩ := bd2_at hf
                          refine r_rwi (As := [.int r86, .int r89, .int r92]) (rest := []) (wr := wV g a_v a_rd a_nw a_tr a_da a_i0 a_i1 a_s0 a_s1 a_s2 a_s3 v ++ wC g a_nw nw ++ wS g a_s0 s0 ++ wS g a_s1 s1 ++ wS g a_s2 s2 ++ wS g a_s3 s3) (ws' := wV g a_v a_rd a_nw a_tr a_da a_i0 a_i1 a_s0 a_s1 a_s2 a_s3 v ++ wC g a_nw nw ++ wC g a_tr tr_95 ++ wS g a_s0 s0 ++ wS g a_s1 s1 ++ wS g a_s2 s2 ++ wS g a_s3 s3) C (kX0_addPlain l g _ a_tr tr_77 r86 r89 r92 r94 tr_95 hq96) (cwV0 C (inr22 _ (List.mem_of_getElem? (i := 15) rfl)) mwX0_addPlain hdX0_addPlain ⟨Nat.le_of_ble_eq_true rfl, Nat.le_of_ble_eq_true rfl⟩) hK w hA [16, 17, 18, 19, 20, 21, 22, 23, 24, 25, 26] [0, 1, 2, 3, 4, 5, 6, 7, 8, 9, 10, 11, 12, 13, 14, 15, 27, 28, 29, 30, 31, 32, 33, 34] [0, 1, 2, 3, 4, 5, 6, 7, 8, 9, 10, 11, 12, 13, 14, 15, 24, 25, 26, 27, 28, 29, 30, 31, 32, 33, 34, 16, 17, 18, 19, 20, 21, 22, 23] (by decide) rfl rfl (by decide) (by decide) rfl (by decide) rfl rfl rfl hl.1 rfl (Nat.le_of_ble_eq_true rfl) ⟨Nat.zero_le _, Nat.zero_le _⟩ (dk_at dkX5_read 66 rfl) (fun H locs w => ?_)
                          refine lv_if_ge (tgt := 136) C.1 C.2.1 (dk_at dkX5_read 67 rfl) (by decide) (fun c97 => ?_) (fun c97 => ?_)
                          · have hf := (if_pos c97).symm.trans hf
                            obtain ⟨x98, ex98⟩ : ∃ z : Int32, z = v76 + 1 := ⟨_, rfl⟩
                            have hf := nm_at ex98 hf
                            refine lv_iinc (v := x98) (lv' := [(6, .int x98), (7, .int r82), (9, .int x81), (8, .int v74), (5, .ref (a_s2 0)), (0, .ref (a_v 0)), (2, .int p2), (3, .int p3), (4, .int p4)]) C.1 C.2.1 (dk_at dkX5_read 72 rfl) hl (k := 3) rfl (by rw [ex98]; rfl) (by decide) rfl (fun ls hl => ?_)
                            obtain ⟨x99, ex99⟩ : ∃ z : Int32, z = v74 + 1 := ⟨_, rfl⟩
                            have hf := nm_at ex99 hf
                            refine lv_iinc (v := x99) (lv' := [(8, .int x99), (6, .int x98), (7, .int r82), (9, .int x81), (5, .ref (a_s2 0)), (0, .ref (a_v 0)), (2, .int p2), (3, .int p3), (4, .int p4)]) C.1 C.2.1 (dk_at dkX5_read 73 rfl) hl (k := 3) rfl (by rw [ex99]; rfl) (by decide) rfl (fun ls hl => ?_)
                            refine lv_goto (tgt := 60) C.1 C.2.1 (dk_at dkX5_read 74 rfl) (by decide) ?_
                            exact ih x99 r82 x98 tr_95 _ _ _ w (lv_sub hl [0, 2, 1, 4, 5, 6, 7, 8] rfl) hf
                          · have hf := (if_neg c97).symm.trans hf
                            refine lv_bipush (v := (-20)) C.1 C.2.1 (dk_at dkX5_read 68 rfl) (by decide) ?_
                            refine lv_iload C.1 C.2.1 (dk_at dkX5_read 69 rfl) (lv_at hl 2 rfl) ?_
                            refine lv_isub C.1 C.2.1 (dk_at dkX5_read 70 rfl) ?_
                            refine lv_topi (fun x100 ex100 => ?_)
                            have hf := nm_at ex100 hf
                            cases hf
                            exact fin _ _ _ _ _ (dk_at dkX5_read 71 rfl) rfl w
                refine L78 _ ?_ 4096 0 0 0 tr_72 _ _ _ w (lv_sub hl [0, 1, 2, 3, 4, 6, 7, 8] rfl) hf
                clear hf
                intro v74 v75 v76 tr_77 H locs ls w hl hf
                refine lv_aload_n C.1 C.2.1 (dk_at dkX5_read 75 rfl) rfl (lv_at hl 2 rfl) ?_
                refine r_get (v := .ref (a_nw 0)) C hK w.1 (fun w h => List.mem_cons_of_mem _ (inlX5 w h)) 0 rfl rfl 1 (by decide) (List.mem_cons_of_mem _ (inr1 _ (List.mem_of_getElem? (i := 19) rfl))) rfl (dk_at dkX5_read 76 rfl) ?_
                refine lv_aload_n C.1 C.2.1 (dk_at dkX5_read 77 rfl) rfl (lv_at hl 2 rfl) ?_
                refine r_get (v := .ref (a_tr 0)) C hK w.1 (fun w h => List.mem_cons_of_mem _ (inlX5 w h)) 0 rfl rfl 2 (by decide) (List.mem_cons_of_mem _ (inr1 _ (List.mem_of_getElem? (i := 20) rfl))) rfl (dk_at dkX5_read 78 rfl) ?_
                obtain ⟨nw_101, hq102, hf⟩ := bd1_at hf
                refine r_rwv (As := [.ref (a_tr 0)]) (rest := []) (wr := wV g a_v a_rd a_nw a_tr a_da a_i0 a_i1 a_s0 a_s1 a_s2 a_s3 v ++ wS g a_s0 s0 ++ wS g a_s1 s1 ++ wS g a_s2 s2 ++ wS g a_s3 s3) (ws' := wV g a_v a_rd a_nw a_tr a_da a_i0 a_i1 a_s0 a_s1 a_s2 a_s3 v ++ wC g a_nw nw_101 ++ wC g a_tr tr_77 ++ wS g a_s0 s0 ++ wS g a_s1 s1 ++ wS g a_s2 s2 ++ wS g a_s3 s3) C (kX0_copyTo l g _ a_nw a_tr nw tr_77 nw_101 hq102) (cwV0 C (inr12 _ (List.mem_of_getElem? (i := 6) rfl)) mwX0_copyFrom hdX0_copyFrom ⟨Nat.le_of_ble_eq_true rfl, Nat.le_of_ble_eq_true rfl⟩) hK w hA [5, 6, 7, 8, 9, 10, 11, 12, 13, 14, 15, 16, 17, 18, 19, 20, 21, 22, 23, 24, 25, 26] [0, 1, 2, 3, 4, 27, 28, 29, 30, 31, 32, 33, 34] [0, 1, 2, 3, 4, 13, 14, 15, 16, 17, 18, 19, 20, 21, 22, 23, 24, 25, 26, 27, 28, 29, 30, 31, 32, 33, 34, 5, 6, 7, 8, 9, 10, 11, 12] (by decide) rfl rfl (by decide) (by decide) rfl (by decide) rfl rfl rfl hl.1 rfl (Nat.le_of_ble_eq_true rfl) ⟨Nat.zero_le _, Nat.zero_le _⟩ (dk_at dkX5_read 79 rfl) (fun H locs w => ?_)
                refine lv_aload_n C.1 C.2.1 (dk_at dkX5_read 80 rfl) rfl (lv_at hl 2 rfl) ?_
                refine lv_iload C.1 C.2.1 (dk_at dkX5_read 81 rfl) (lv_at hl 0 rfl) ?_
                refine r_put (v := .int v75) C hK w (fun w h => List.mem_cons_of_mem _ (inlX5 w h)) tyX5 tyX5_ok nmX5 0 rfl rfl 8 (by decide) (List.mem_cons_of_mem _ (inr41 _ (List.mem_of_getElem? (i := 1) rfl))) rfl rfl rfl (Nat.le_of_ble_eq_true rfl) (dk_at dkX5_read 82 rfl) (fun H locs w => ?_)
                obtain ⟨v_103, ev_103⟩ : ∃ z : VT, z = vLt' v v75 := ⟨_, rfl⟩
                have hf := nm_at ev_103 hf
                have w : Wd g A Z.heap (wV g a_v a_rd a_nw a_tr a_da a_i0 a_i1 a_s0 a_s1 a_s2 a_s3 v_103 ++ wC g a_nw nw_101 ++ wC g a_tr tr_77 ++ wS g a_s0 s0 ++ wS g a_s1 s1 ++ wS g a_s2 s2 ++ wS g a_s3 s3) H locs := by rw [ev_103]; exact w
                refine lv_iload C.1 C.2.1 (dk_at dkX5_read 83 rfl) (lv_at hl 1 rfl) ?_
                cases hf
                exact fin _ _ _ _ _ (dk_at dkX5_read 84 rfl) rfl w
              · have hf : _ := (((if_neg (by rw [hs]; decide)).trans (if_neg (by rw [hs]; decide))).trans (if_neg (by rw [hs]; decide))).symm.trans hf
                refine r_alds (b := a_s3 0) C hK w.1 4 rfl h7 (by rw [hs]; rfl) (dk_at dkX5_read 20 rfl) ?_
                refine lv_astore (lv' := [(5, .ref (a_s3 0)), (0, .ref (a_v 0)), (1, .int p1), (2, .int p2), (3, .int p3), (4, .int p4)]) C.1 C.2.1 (dk_at dkX5_read 21 rfl) hl (by decide) rfl (fun ls hl => ?_)
                refine lv_iconst (v := 0) C.1 C.2.1 (dk_at dkX5_read 22 rfl) (by decide) ?_
                refine lv_istore (lv' := [(6, .int 0), (5, .ref (a_s3 0)), (0, .ref (a_v 0)), (1, .int p1), (2, .int p2), (3, .int p3), (4, .int p4)]) C.1 C.2.1 (dk_at dkX5_read 23 rfl) hl (by decide) rfl (fun ls hl => ?_)
                refine lv_iconst (v := 0) C.1 C.2.1 (dk_at dkX5_read 24 rfl) (by decide) ?_
                refine lv_istore (lv' := [(7, .int 0), (6, .int 0), (5, .ref (a_s3 0)), (0, .ref (a_v 0)), (1, .int p1), (2, .int p2), (3, .int p3), (4, .int p4)]) C.1 C.2.1 (dk_at dkX5_read 25 rfl) hl (by decide) rfl (fun ls hl => ?_)
                refine lv_aload_n C.1 C.2.1 (dk_at dkX5_read 26 rfl) rfl (lv_at hl 3 rfl) ?_
                refine r_get (v := .ref (a_tr 0)) C hK w.1 (fun w h => List.mem_cons_of_mem _ (inlX5 w h)) 0 rfl rfl 2 (by decide) (List.mem_cons_of_mem _ (inr1 _ (List.mem_of_getElem? (i := 20) rfl))) rfl (dk_at dkX5_read 27 rfl) ?_
                refine lv_aload_n C.1 C.2.1 (dk_at dkX5_read 28 rfl) rfl (lv_at hl 3 rfl) ?_
                refine r_get (v := .ref (a_nw 0)) C hK w.1 (fun w h => List.mem_cons_of_mem _ (inlX5 w h)) 0 rfl rfl 1 (by decide) (List.mem_cons_of_mem _ (inr1 _ (List.mem_of_getElem? (i := 19) rfl))) rfl (dk_at dkX5_read 29 rfl) ?_
                obtain ⟨tr_104, hq105, hf⟩ := bd1_at hf
                refine r_rwv (As := [.ref (a_nw 0)]) (rest := []) (wr := wV g a_v a_rd a_nw a_tr a_da a_i0 a_i1 a_s0 a_s1 a_s2 a_s3 v ++ wS g a_s0 s0 ++ wS g a_s1 s1 ++ wS g a_s2 s2 ++ wS g a_s3 s3) (ws' := wV g a_v a_rd a_nw a_tr a_da a_i0 a_i1 a_s0 a_s1 a_s2 a_s3 v ++ wC g a_nw nw ++ wC g a_tr tr_104 ++ wS g a_s0 s0 ++ wS g a_s1 s1 ++ wS g a_s2 s2 ++ wS g a_s3 s3) C (kX0_copyTo l g _ a_tr a_nw tr nw tr_104 hq105) (cwV0 C (inr12 _ (List.mem_of_getElem? (i := 6) rfl)) mwX0_copyFrom hdX0_copyFrom ⟨Nat.le_of_ble_eq_true rfl, Nat.le_of_ble_eq_true rfl⟩) hK w hA [16, 17, 18, 19, 20, 21, 22, 23, 24, 25, 26, 5, 6, 7, 8, 9, 10, 11, 12, 13, 14, 15] [0, 1, 2, 3, 4, 27, 28, 29, 30, 31, 32, 33, 34] [0, 1, 2, 3, 4, 24, 25, 26, 27, 28, 29, 30, 31, 32, 33, 34, 13, 14, 15, 16, 17, 18, 19, 20, 21, 22, 23, 5, 6, 7, 8, 9, 10, 11, 12] (by decide) rfl rfl (by decide) (by decide) rfl (by decide) rfl rfl rfl hl.1 rfl (Nat.le_of_ble_eq_true rfl) ⟨Nat.zero_le _, Nat.zero_le _⟩ (dk_at dkX5_read 30 rfl) (fun H locs w => ?_)
                refine lv_iconst (v := 0) C.1 C.2.1 (dk_at dkX5_read 31 rfl) (by decide) ?_
                refine lv_istore (lv' := [(8, .int 0), (7, .int 0), (6, .int 0), (5, .ref (a_s3 0)), (0, .ref (a_v 0)), (1, .int p1), (2, .int p2), (3, .int p3), (4, .int p4)]) C.1 C.2.1 (dk_at dkX5_read 32 rfl) hl (by decide) rfl (fun ls hl => ?_)
                have L110 : ∀ (K : Int32 → Int32 → Int32 → CT → Option (Int32 × VT × CT × CT)), (∀ (v106 : Int32) (v107 : Int32) (v108 : Int32) (tr_109 : CT) (H : Heap) (locs : List Loc) (ls : Array Slot), Wd g A Z.heap (wV g a_v a_rd a_nw a_tr a_da a_i0 a_i1 a_s0 a_s1 a_s2 a_s3 v ++ wC g a_nw nw ++ wC g a_tr tr_109 ++ wS g a_s0 s0 ++ wS g a_s1 s1 ++ wS g a_s2 s2 ++ wS g a_s3 s3) H locs → lv_has ls 10 [(7, .int v107), (6, .int v108), (0, .ref (a_v 0))] → K v106 v107 v108 tr_109 = some (res, v_o, nw_o, tr_o) → W P l E rmX5_read Z Mi AR BE ME CO H locs 0 0 Q (F0 Mi 145 ls [])) → ∀ (n : Nat), ∀ (v106 : Int32) (v107 : Int32) (v108 : Int32) (tr_109 : CT) (H : Heap) (locs : List Loc) (ls : Array Slot), Wd g A Z.heap (wV g a_v a_rd a_nw a_tr a_da a_i0 a_i1 a_s0 a_s1 a_s2 a_s3 v ++ wC g a_nw nw ++ wC g a_tr tr_109 ++ wS g a_s0 s0 ++ wS g a_s1 s1 ++ wS g a_s2 s2 ++ wS g a_s3 s3) H locs → lv_has ls 10 [(8, .int v106), (7, .int v107), (6, .int v108), (5, .ref (a_s3 0)), (0, .ref (a_v 0)), (2, .int p2), (3, .int p3), (4, .int p4)] → fX5_read_L60b3 v nw s3 p2 p3 p4 K n v106 v107 v108 tr_109 = some (res, v_o, nw_o, tr_o) → W P l E rmX5_read Z Mi AR BE ME CO H locs 0 0 Q (F0 Mi 60 ls []) := by
                  intro K hKe n
                  induction n with
                  | zero => intro v106 v107 v108 tr_109 H locs ls w hl hf; cases hf
                  | succ n ih =>
                    intro v106 v107 v108 tr_109 H locs ls w hl hf
                    rw [fX5_read_L60b3] at hf
                    refine lv_iload C.1 C.2.1 (dk_at dkX5_read 33 rfl) (lv_at hl 0 rfl) ?_
                    refine lv_iload C.1 C.2.1 (dk_at dkX5_read 34 rfl) (lv_at hl 7 rfl) ?_
                    refine lv_icmp_ge (tgt := 145) C.1 C.2.1 (dk_at dkX5_read 35 rfl) (by decide) (fun c111 => ?_) (fun c111 => ?_)
                    · have hf := (if_pos c111).symm.trans hf
                      exact hKe v106 v107 v108 tr_109 _ _ _ w (lv_sub hl [1, 2, 4] rfl) hf
                    · have hf := (if_neg c111).symm.trans hf
                      refine lv_iload C.1 C.2.1 (dk_at dkX5_read 36 rfl) (lv_at hl 1 rfl) ?_
                      refine lv_if_ne (tgt := 145) C.1 C.2.1 (dk_at dkX5_read 37 rfl) (by decide) (fun c112 => ?_) (fun c112 => ?_)
                      · have hf := (if_neg c112).symm.trans hf
                        exact hKe v106 v107 v108 tr_109 _ _ _ w (lv_sub hl [1, 2, 4] rfl) hf
                      · have hf := (if_pos c112).symm.trans hf
                        refine lv_iload_n C.1 C.2.1 (dk_at dkX5_read 38 rfl) rfl (lv_at hl 6 rfl) ?_
                        refine lv_iconst (v := 3) C.1 C.2.1 (dk_at dkX5_read 39 rfl) (by decide) ?_
                        refine lv_iload C.1 C.2.1 (dk_at dkX5_read 40 rfl) (lv_at hl 0 rfl) ?_
                        refine lv_imul C.1 C.2.1 (dk_at dkX5_read 41 rfl) ?_
                        refine lv_iadd C.1 C.2.1 (dk_at dkX5_read 42 rfl) ?_
                        refine lv_topi (fun x113 ex113 => ?_)
                        have hf := nm_at ex113 hf
                        refine lv_istore (lv' := [(9, .int x113), (8, .int v106), (7, .int v107), (6, .int v108), (5, .ref (a_s3 0)), (0, .ref (a_v 0)), (2, .int p2), (3, .int p3), (4, .int p4)]) C.1 C.2.1 (dk_at dkX5_read 43 rfl) hl (by decide) rfl (fun ls hl => ?_)
                        refine lv_aload C.1 C.2.1 (dk_at dkX5_read 44 rfl) (lv_at hl 4 rfl) ?_
                        refine lv_iload_n C.1 C.2.1 (dk_at dkX5_read 45 rfl) rfl (lv_at hl 6 rfl) ?_
                        refine lv_iload C.1 C.2.1 (dk_at dkX5_read 46 rfl) (lv_at hl 0 rfl) ?_
                        obtain ⟨r114, hq115, hf⟩ := bd1_at hf
                        refine r_roV (As := [.int p2, .int x113]) (rest := []) C (kX4_flawOfThree l g a_s3 s3 p2 x113 r114 hq115) (cwV0 C (inr41 _ (List.mem_of_getElem? (i := 2) rfl)) mwX4_flawOfThree hdX4_flawOfThree ⟨Nat.le_of_ble_eq_true rfl, Nat.le_of_ble_eq_true rfl⟩) hK (w.1.sub [33, 34] rfl) rfl rfl rfl hl.1 rfl (Nat.le_of_ble_eq_true rfl) ⟨Nat.zero_le _, Nat.zero_le _⟩ (dk_at dkX5_read 47 rfl) ?_
                        refine lv_istore (lv' := [(7, .int r114), (9, .int x113), (8, .int v106), (6, .int v108), (5, .ref (a_s3 0)), (0, .ref (a_v 0)), (2, .int p2), (3, .int p3), (4, .int p4)]) C.1 C.2.1 (dk_at dkX5_read 48 rfl) hl (by decide) rfl (fun ls hl => ?_)
                        refine lv_iload C.1 C.2.1 (dk_at dkX5_read 49 rfl) (lv_at hl 0 rfl) ?_
                        refine lv_if_ne (tgt := 139) C.1 C.2.1 (dk_at dkX5_read 50 rfl) (by decide) (fun c116 => ?_) (fun c116 => ?_)
                        · have hf := (if_neg c116).symm.trans hf
                          obtain ⟨x117, ex117⟩ : ∃ z : Int32, z = v106 + 1 := ⟨_, rfl⟩
                          have hf := nm_at ex117 hf
                          refine lv_iinc (v := x117) (lv' := [(8, .int x117), (7, .int r114), (9, .int x113), (6, .int v108), (5, .ref (a_s3 0)), (0, .ref (a_v 0)), (2, .int p2), (3, .int p3), (4, .int p4)]) C.1 C.2.1 (dk_at dkX5_read 73 rfl) hl (k := 2) rfl (by rw [ex117]; rfl) (by decide) rfl (fun ls hl => ?_)
                          refine lv_goto (tgt := 60) C.1 C.2.1 (dk_at dkX5_read 74 rfl) (by decide) ?_
                          exact ih x117 r114 v108 tr_109 _ _ _ w (lv_sub hl [0, 1, 3, 4, 5, 6, 7, 8] rfl) hf
                        · have hf := (if_pos c116).symm.trans hf
                          refine lv_aload_n C.1 C.2.1 (dk_at dkX5_read 51 rfl) rfl (lv_at hl 5 rfl) ?_
                          refine r_get (v := .ref (a_tr 0)) C hK w.1 (fun w h => List.mem_cons_of_mem _ (inlX5 w h)) 0 rfl rfl 2 (by decide) (List.mem_cons_of_mem _ (inr1 _ (List.mem_of_getElem? (i := 20) rfl))) rfl (dk_at dkX5_read 52 rfl) ?_
                          refine lv_aload C.1 C.2.1 (dk_at dkX5_read 53 rfl) (lv_at hl 4 rfl) ?_
                          refine lv_iload C.1 C.2.1 (dk_at dkX5_read 54 rfl) (lv_at hl 1 rfl) ?_
                          obtain ⟨r118, hq119, hf⟩ := bd1_at hf
                          refine r_roV (As := [.int x113]) (rest := [.ref (a_tr 0)]) C (kX4_cellAt l g a_s3 s3 x113 r118 hq119) (cwV0 C (inr41 _ (List.mem_of_getElem? (i := 7) rfl)) mwX4_cellAt hdX4_cellAt ⟨Nat.le_of_ble_eq_true rfl, Nat.le_of_ble_eq_true rfl⟩) hK (w.1.sub [33, 34] rfl) rfl rfl rfl hl.1 rfl (Nat.le_of_ble_eq_true rfl) ⟨Nat.zero_le _, Nat.zero_le _⟩ (dk_at dkX5_read 55 rfl) ?_
                          refine lv_aload C.1 C.2.1 (dk_at dkX5_read 56 rfl) (lv_at hl 4 rfl) ?_
                          refine lv_iload C.1 C.2.1 (dk_at dkX5_read 57 rfl) (lv_at hl 1 rfl) ?_
                          refine lv_iconst (v := 1) C.1 C.2.1 (dk_at dkX5_read 58 rfl) (by decide) ?_
                          refine lv_iadd C.1 C.2.1 (dk_at dkX5_read 59 rfl) ?_
                          refine lv_topi (fun x120 ex120 => ?_)
                          have hf := nm_at ex120 hf
                          obtain ⟨r121, hq122, hf⟩ := bd1_at hf
                          refine r_roV (As := [.int x120]) (rest := [.int r118, .ref (a_tr 0)]) C (kX4_cellAt l g a_s3 s3 x120 r121 hq122) (cwV0 C (inr41 _ (List.mem_of_getElem? (i := 7) rfl)) mwX4_cellAt hdX4_cellAt ⟨Nat.le_of_ble_eq_true rfl, Nat.le_of_ble_eq_true rfl⟩) hK (w.1.sub [33, 34] rfl) rfl rfl rfl hl.1 rfl (Nat.le_of_ble_eq_true rfl) ⟨Nat.zero_le _, Nat.zero_le _⟩ (dk_at dkX5_read 60 rfl) ?_
                          refine lv_aload C.1 C.2.1 (dk_at dkX5_read 61 rfl) (lv_at hl 4 rfl) ?_
                          refine lv_iload C.1 C.2.1 (dk_at dkX5_read 62 rfl) (lv_at hl 1 rfl) ?_
                          refine lv_iconst (v := 2) C.1 C.2.1 (dk_at dkX5_read 63 rfl) (by decide) ?_
                          refine lv_iadd C.1 C.2.1 (dk_at dkX5_read 64 rfl) ?_
                          refine lv_topi (fun x123 ex123 => ?_)
                          have hf := nm_at ex123 hf
                          obtain ⟨r124, hq125, hf⟩ := bd1_at hf
                          refine r_roV (As := [.int x123]) (rest := [.int r121, .int r118, .ref (a_tr 0)]) C (kX4_cellAt l g a_s3 s3 x123 r124 hq125) (cwV0 C (inr41 _ (List.mem_of_getElem? (i := 7) rfl)) mwX4_cellAt hdX4_cellAt ⟨Nat.le_of_ble_eq_true rfl, Nat.le_of_ble_eq_true rfl⟩) hK (w.1.sub [33, 34] rfl) rfl rfl rfl hl.1 rfl (Nat.le_of_ble_eq_true rfl) ⟨Nat.zero_le _, Nat.zero_le _⟩ (dk_at dkX5_read 65 rfl) ?_
                          obtain ⟨r126, tr_127, hq128, hf⟩ := bd2_at hf
                          refine r_rwi (As := [.int r118, .int r121, .int r124]) (rest := []) (wr := wV g a_v a_rd a_nw a_tr a_da a_i0 a_i1 a_s0 a_s1 a_s2 a_s3 v ++ wC g a_nw nw ++ wS g a_s0 s0 ++ wS g a_s1 s1 ++ wS g a_s2 s2 ++ wS g a_s3 s3) (ws' := wV g a_v a_rd a_nw a_tr a_da a_i0 a_i1 a_s0 a_s1 a_s2 a_s3 v ++ wC g a_nw nw ++ wC g a_tr tr_127 ++ wS g a_s0 s0 ++ wS g a_s1 s1 ++ wS g a_s2 s2 ++ wS g a_s3 s3) C (kX0_addPlain l g _ a_tr tr_109 r118 r121 r124 r126 tr_127 hq128) (cwV0 C (inr22 _ (List.mem_of_getElem? (i := 15) rfl)) mwX0_addPlain hdX0_addPlain ⟨Nat.le_of_ble_eq_true rfl, Nat.le_of_ble_eq_true rfl⟩) hK w hA [16, 17, 18, 19, 20, 21, 22, 23, 24, 25, 26] [0, 1, 2, 3, 4, 5, 6, 7, 8, 9, 10, 11, 12, 13, 14, 15, 27, 28, 29, 30, 31, 32, 33, 34] [0, 1, 2, 3, 4, 5, 6, 7, 8, 9, 10, 11, 12, 13, 14, 15, 24, 25, 26, 27, 28, 29, 30, 31, 32, 33, 34, 16, 17, 18, 19, 20, 21, 22, 23] (by decide) rfl rfl (by decide) (by decide) rfl (by decide) rfl rfl rfl hl.1 rfl (Nat.le_of_ble_eq_true rfl) ⟨Nat.zero_le _, Nat.zero_le _⟩ (dk_at dkX5_read 66 rfl) (fun H locs w => ?_)
                          refine lv_if_ge (tgt := 136) C.1 C.2.1 (dk_at dkX5_read 67 rfl) (by decide) (fun c129 => ?_) (fun c129 => ?_)
                          · have hf := (if_pos c129).symm.trans hf
                            obtain ⟨x130, ex130⟩ : ∃ z : Int32, z = v108 + 1 := ⟨_, rfl⟩
                            have hf := nm_at ex130 hf
                            refine lv_iinc (v := x130) (lv' := [(6, .int x130), (7, .int r114), (9, .int x113), (8, .int v106), (5, .ref (a_s3 0)), (0, .ref (a_v 0)), (2, .int p2), (3, .int p3), (4, .int p4)]) C.1 C.2.1 (dk_at dkX5_read 72 rfl) hl (k := 3) rfl (by rw [ex130]; rfl) (by decide) rfl (fun ls hl => ?_)
                            obtain ⟨x131, ex131⟩ : ∃ z : Int32, z = v106 + 1 := ⟨_, rfl⟩
                            have hf := nm_at ex131 hf
                            refine lv_iinc (v := x131) (lv' := [(8, .int x131), (6, .int x130), (7, .int r114), (9, .int x113), (5, .ref (a_s3 0)), (0, .ref (a_v 0)), (2, .int p2), (3, .int p3), (4, .int p4)]) C.1 C.2.1 (dk_at dkX5_read 73 rfl) hl (k := 3) rfl (by rw [ex131]; rfl) (by decide) rfl (fun ls hl => ?_)
                            refine lv_goto (tgt := 60) C.1 C.2.1 (dk_at dkX5_read 74 rfl) (by decide) ?_
                            exact ih x131 r114 x130 tr_127 _ _ _ w (lv_sub hl [0, 2, 1, 4, 5, 6, 7, 8] rfl) hf
                          · have hf := (if_neg c129).symm.trans hf
                            refine lv_bipush (v := (-20)) C.1 C.2.1 (dk_at dkX5_read 68 rfl) (by decide) ?_
                            refine lv_iload C.1 C.2.1 (dk_at dkX5_read 69 rfl) (lv_at hl 2 rfl) ?_
                            refine lv_isub C.1 C.2.1 (dk_at dkX5_read 70 rfl) ?_
                            refine lv_topi (fun x132 ex132 => ?_)
                            have hf := nm_at ex132 hf
                            cases hf
                            exact fin _ _ _ _ _ (dk_at dkX5_read 71 rfl) rfl w
                refine L110 _ ?_ 4096 0 0 0 tr_104 _ _ _ w (lv_sub hl [0, 1, 2, 3, 4, 6, 7, 8] rfl) hf
                clear hf
                intro v106 v107 v108 tr_109 H locs ls w hl hf
                refine lv_aload_n C.1 C.2.1 (dk_at dkX5_read 75 rfl) rfl (lv_at hl 2 rfl) ?_
                refine r_get (v := .ref (a_nw 0)) C hK w.1 (fun w h => List.mem_cons_of_mem _ (inlX5 w h)) 0 rfl rfl 1 (by decide) (List.mem_cons_of_mem _ (inr1 _ (List.mem_of_getElem? (i := 19) rfl))) rfl (dk_at dkX5_read 76 rfl) ?_
                refine lv_aload_n C.1 C.2.1 (dk_at dkX5_read 77 rfl) rfl (lv_at hl 2 rfl) ?_
                refine r_get (v := .ref (a_tr 0)) C hK w.1 (fun w h => List.mem_cons_of_mem _ (inlX5 w h)) 0 rfl rfl 2 (by decide) (List.mem_cons_of_mem _ (inr1 _ (List.mem_of_getElem? (i := 20) rfl))) rfl (dk_at dkX5_read 78 rfl) ?_
                obtain ⟨nw_133, hq134, hf⟩ := bd1_at hf
                refine r_rwv (As := [.ref (a_tr 0)]) (rest := []) (wr := wV g a_v a_rd a_nw a_tr a_da a_i0 a_i1 a_s0 a_s1 a_s2 a_s3 v ++ wS g a_s0 s0 ++ wS g a_s1 s1 ++ wS g a_s2 s2 ++ wS g a_s3 s3) (ws' := wV g a_v a_rd a_nw a_tr a_da a_i0 a_i1 a_s0 a_s1 a_s2 a_s3 v ++ wC g a_nw nw_133 ++ wC g a_tr tr_109 ++ wS g a_s0 s0 ++ wS g a_s1 s1 ++ wS g a_s2 s2 ++ wS g a_s3 s3) C (kX0_copyTo l g _ a_nw a_tr nw tr_109 nw_133 hq134) (cwV0 C (inr12 _ (List.mem_of_getElem? (i := 6) rfl)) mwX0_copyFrom hdX0_copyFrom ⟨Nat.le_of_ble_eq_true rfl, Nat.le_of_ble_eq_true rfl⟩) hK w hA [5, 6, 7, 8, 9, 10, 11, 12, 13, 14, 15, 16, 17, 18, 19, 20, 21, 22, 23, 24, 25, 26] [0, 1, 2, 3, 4, 27, 28, 29, 30, 31, 32, 33, 34] [0, 1, 2, 3, 4, 13, 14, 15, 16, 17, 18, 19, 20, 21, 22, 23, 24, 25, 26, 27, 28, 29, 30, 31, 32, 33, 34, 5, 6, 7, 8, 9, 10, 11, 12] (by decide) rfl rfl (by decide) (by decide) rfl (by decide) rfl rfl rfl hl.1 rfl (Nat.le_of_ble_eq_true rfl) ⟨Nat.zero_le _, Nat.zero_le _⟩ (dk_at dkX5_read 79 rfl) (fun H locs w => ?_)
                refine lv_aload_n C.1 C.2.1 (dk_at dkX5_read 80 rfl) rfl (lv_at hl 2 rfl) ?_
                refine lv_iload C.1 C.2.1 (dk_at dkX5_read 81 rfl) (lv_at hl 0 rfl) ?_
                refine r_put (v := .int v107) C hK w (fun w h => List.mem_cons_of_mem _ (inlX5 w h)) tyX5 tyX5_ok nmX5 0 rfl rfl 8 (by decide) (List.mem_cons_of_mem _ (inr41 _ (List.mem_of_getElem? (i := 1) rfl))) rfl rfl rfl (Nat.le_of_ble_eq_true rfl) (dk_at dkX5_read 82 rfl) (fun H locs w => ?_)
                obtain ⟨v_135, ev_135⟩ : ∃ z : VT, z = vLt' v v107 := ⟨_, rfl⟩
                have hf := nm_at ev_135 hf
                have w : Wd g A Z.heap (wV g a_v a_rd a_nw a_tr a_da a_i0 a_i1 a_s0 a_s1 a_s2 a_s3 v_135 ++ wC g a_nw nw_133 ++ wC g a_tr tr_109 ++ wS g a_s0 s0 ++ wS g a_s1 s1 ++ wS g a_s2 s2 ++ wS g a_s3 s3) H locs := by rw [ev_135]; exact w
                refine lv_iload C.1 C.2.1 (dk_at dkX5_read 83 rfl) (lv_at hl 1 rfl) ?_
                cases hf
                exact fin _ _ _ _ _ (dk_at dkX5_read 84 rfl) rfl w
            · have hf := (if_neg c6).symm.trans hf
              refine lv_iconst (v := (-1)) C.1 C.2.1 (dk_at dkX5_read 15 rfl) (by decide) ?_
              cases hf
              exact fin _ _ _ _ _ (dk_at dkX5_read 16 rfl) rfl w
-- X5.torn
abbrev tbX5_torn : List (Nat × Instr × Nat) := [(0, .aload_n 0, 1), (1, .getfield 254, 3), (4, .ireturn, 1)]
theorem dkX5_torn : dk cX5_torn tbX5_torn := dk_of (by decide +kernel)
abbrev cdX5_torn : Cond := Cond.code yX5_torn cX5_torn 1 (some .int)
abbrev rmX5_torn : Room := { frames := 0, cells := 0, slots := 0, locals := 0 }
theorem mwX5_torn : Cond.instanceMethod yX5_torn ∈ wsL_law ∧ Cond.selects RX5 yX5_torn yX5_torn ∈ wsL_law ∧ Cond.initialized RX5 ∈ wsL_law ∧ cdX5_torn ∈ wsL_law := ⟨inr41 _ (List.mem_of_getElem? (i := 19) rfl), inr41 _ (List.mem_of_getElem? (i := 20) rfl), inr1 _ (List.mem_of_getElem? (i := 2) rfl), inr41 _ (List.mem_of_getElem? (i := 21) rfl)⟩
theorem hdX5_torn : yX5_torn.cls = RX5 ∧ yX5_torn.cls ≠ "java/lang/invoke/MethodHandle" ∧ yX5_torn.cls ≠ "java/lang/invoke/VarHandle" ∧ (parseMethodDescriptor yX5_torn.desc).map (fun d => d.parameters.length) = some 0 := by decide +kernel
set_option maxHeartbeats 4000000 in
set_option maxRecDepth 100000 in
theorem kX5_torn (l : Launch) (g : Gx) (a_v a_rd a_nw a_tr a_da a_i0 a_i1 a_s0 a_s1 a_s2 a_s3 : Nat → Nat) (v : VT) (res : Int32) (hf : fX5_torn v = some res) : Met l yX5_torn (cdX5_torn :: wsL_law) rmX5_torn (va_Pc [.ref (a_v 0)] (RO g (wV g a_v a_rd a_nw a_tr a_da a_i0 a_i1 a_s0 a_s1 a_s2 a_s3 v))) (vp_Si (fun x => x = res)) 0 0 (fun _ => False) := by
  refine Met_roi (cc := cX5_torn) (maxL := 1) (by decide) rfl (Nat.le_of_ble_eq_true rfl) ?_
  intro P E Z Mi AR BE ME CO Q C fin hK hP ls hl
  have hl : lv_has ls 1 [(0, .ref (a_v 0))] := hl
  unfold fX5_torn at hf
  refine lv_aload_n C.1 C.2.1 (dk_at dkX5_torn 0 rfl) rfl (lv_at hl 0 rfl) ?_
  refine r_get (v := .int (vLt v)) C hK hP (fun w h => List.mem_cons_of_mem _ (inlX5 w h)) 0 rfl rfl 8 (by decide) (List.mem_cons_of_mem _ (inr41 _ (List.mem_of_getElem? (i := 1) rfl))) rfl (dk_at dkX5_torn 1 rfl) ?_
  cases hf
  exact fin _ _ _ (dk_at dkX5_torn 2 rfl) rfl
-- X5.imagesKept
abbrev tbX5_imagesKept : List (Nat × Instr × Nat) := [(0, .iconst 0, 1), (1, .istore_n 1, 1), (2, .iconst 0, 1), (3, .istore_n 2, 1), (4, .iload_n 2, 1), (5, .iconst 2, 1), (6, .if_icmp .ge 21, 3), (9, .aload_n 0, 1), (10, .getfield 41, 3), (13, .iload_n 2, 1), (14, .baload, 1), (15, .ifCond .eq 6, 3), (18, .iinc 1 1, 3), (21, .iinc 2 1, 3), (24, .goto (-20), 3), (27, .iload_n 1, 1), (28, .ireturn, 1)]
theorem dkX5_imagesKept : dk cX5_imagesKept tbX5_imagesKept := dk_of (by decide +kernel)
abbrev cdX5_imagesKept : Cond := Cond.code yX5_imagesKept cX5_imagesKept 3 (some .int)
abbrev rmX5_imagesKept : Room := { frames := 0, cells := 0, slots := 0, locals := 0 }
theorem mwX5_imagesKept : Cond.instanceMethod yX5_imagesKept ∈ wsL_law ∧ Cond.selects RX5 yX5_imagesKept yX5_imagesKept ∈ wsL_law ∧ Cond.initialized RX5 ∈ wsL_law ∧ cdX5_imagesKept ∈ wsL_law := ⟨inr42 _ (List.mem_of_getElem? (i := 9) rfl), inr42 _ (List.mem_of_getElem? (i := 10) rfl), inr1 _ (List.mem_of_getElem? (i := 2) rfl), inr42 _ (List.mem_of_getElem? (i := 11) rfl)⟩
theorem hdX5_imagesKept : yX5_imagesKept.cls = RX5 ∧ yX5_imagesKept.cls ≠ "java/lang/invoke/MethodHandle" ∧ yX5_imagesKept.cls ≠ "java/lang/invoke/VarHandle" ∧ (parseMethodDescriptor yX5_imagesKept.desc).map (fun d => d.parameters.length) = some 0 := by decide +kernel
set_option maxHeartbeats 4000000 in
set_option maxRecDepth 100000 in
theorem kX5_imagesKept (l : Launch) (g : Gx) (a_v a_rd a_nw a_tr a_da a_i0 a_i1 a_s0 a_s1 a_s2 a_s3 : Nat → Nat) (v : VT) (res : Int32) (hf : fX5_imagesKept v = some res) : Met l yX5_imagesKept (cdX5_imagesKept :: wsL_law) rmX5_imagesKept (va_Pc [.ref (a_v 0)] (RO g (wV g a_v a_rd a_nw a_tr a_da a_i0 a_i1 a_s0 a_s1 a_s2 a_s3 v))) (vp_Si (fun x => x = res)) 0 0 (fun _ => False) := by
  refine Met_roi (cc := cX5_imagesKept) (maxL := 3) (by decide) rfl (Nat.le_of_ble_eq_true rfl) ?_
  intro P E Z Mi AR BE ME CO Q C fin hK hP ls hl
  have hl : lv_has ls 3 [(0, .ref (a_v 0))] := hl
  unfold fX5_imagesKept at hf
  refine lv_iconst (v := 0) C.1 C.2.1 (dk_at dkX5_imagesKept 0 rfl) (by decide) ?_
  refine lv_istore_n (lv' := [(1, .int 0), (0, .ref (a_v 0))]) C.1 C.2.1 (dk_at dkX5_imagesKept 1 rfl) rfl hl (by decide) rfl (fun ls hl => ?_)
  refine lv_iconst (v := 0) C.1 C.2.1 (dk_at dkX5_imagesKept 2 rfl) (by decide) ?_
  refine lv_istore_n (lv' := [(2, .int 0), (1, .int 0), (0, .ref (a_v 0))]) C.1 C.2.1 (dk_at dkX5_imagesKept 3 rfl) rfl hl (by decide) rfl (fun ls hl => ?_)
  have L3 : ∀ (K : Int32 → Int32 → Option (Int32)), (∀ (v1 : Int32) (v2 : Int32) (ls : Array Slot), lv_has ls 3 [(1, .int v2)] → K v1 v2 = some res → W P l E rmX5_imagesKept Z Mi AR BE ME CO Z.heap [] 0 0 Q (F0 Mi 27 ls [])) → ∀ (n : Nat), ∀ (v1 : Int32) (v2 : Int32) (ls : Array Slot), lv_has ls 3 [(2, .int v1), (1, .int v2), (0, .ref (a_v 0))] → fX5_imagesKept_L4 v K n v1 v2 = some res → W P l E rmX5_imagesKept Z Mi AR BE ME CO Z.heap [] 0 0 Q (F0 Mi 4 ls []) := by
    intro K hKe n
    induction n with
    | zero => intro v1 v2 ls hl hf; cases hf
    | succ n ih =>
      intro v1 v2 ls hl hf
      rw [fX5_imagesKept_L4] at hf
      refine lv_iload_n C.1 C.2.1 (dk_at dkX5_imagesKept 4 rfl) rfl (lv_at hl 0 rfl) ?_
      refine lv_iconst (v := 2) C.1 C.2.1 (dk_at dkX5_imagesKept 5 rfl) (by decide) ?_
      refine lv_icmp_ge (tgt := 27) C.1 C.2.1 (dk_at dkX5_imagesKept 6 rfl) (by decide) (fun c4 => ?_) (fun c4 => ?_)
      · have hf := (if_pos c4).symm.trans hf
        exact hKe v1 v2 _ (lv_sub hl [1] rfl) hf
      · have hf := (if_neg c4).symm.trans hf
        refine lv_aload_n C.1 C.2.1 (dk_at dkX5_imagesKept 7 rfl) rfl (lv_at hl 2 rfl) ?_
        refine r_get (v := .ref (a_v 3)) C hK hP (fun w h => List.mem_cons_of_mem _ (inlX5 w h)) 0 rfl rfl 6 (by decide) (List.mem_cons_of_mem _ (inr2 _ (List.mem_of_getElem? (i := 5) rfl))) rfl (dk_at dkX5_imagesKept 8 rfl) ?_
        refine lv_iload_n C.1 C.2.1 (dk_at dkX5_imagesKept 9 rfl) rfl (lv_at hl 0 rfl) ?_
        obtain ⟨h5, hf⟩ := gd_at hf
        refine r_zald (k := v1.toNatClampNeg) (f := (vKe v)) C hK hP 3 rfl h5 rfl (dk_at dkX5_imagesKept 10 rfl) ?_
        refine lv_if_eq (tgt := 21) C.1 C.2.1 (dk_at dkX5_imagesKept 11 rfl) (by decide) (fun c6 => ?_) (fun c6 => ?_)
        · have hf := (if_pos c6).symm.trans hf
          obtain ⟨x7, ex7⟩ : ∃ z : Int32, z = v1 + 1 := ⟨_, rfl⟩
          have hf := nm_at ex7 hf
          refine lv_iinc (v := x7) (lv' := [(2, .int x7), (1, .int v2), (0, .ref (a_v 0))]) C.1 C.2.1 (dk_at dkX5_imagesKept 13 rfl) hl (k := 0) rfl (by rw [ex7]; rfl) (by decide) rfl (fun ls hl => ?_)
          refine lv_goto (tgt := 4) C.1 C.2.1 (dk_at dkX5_imagesKept 14 rfl) (by decide) ?_
          exact ih x7 v2 _ (lv_sub hl [0, 1, 2] rfl) hf
        · have hf := (if_neg c6).symm.trans hf
          obtain ⟨x8, ex8⟩ : ∃ z : Int32, z = v2 + 1 := ⟨_, rfl⟩
          have hf := nm_at ex8 hf
          refine lv_iinc (v := x8) (lv' := [(1, .int x8), (2, .int v1), (0, .ref (a_v 0))]) C.1 C.2.1 (dk_at dkX5_imagesKept 12 rfl) hl (k := 1) rfl (by rw [ex8]; rfl) (by decide) rfl (fun ls hl => ?_)
          obtain ⟨x9, ex9⟩ : ∃ z : Int32, z = v1 + 1 := ⟨_, rfl⟩
          have hf := nm_at ex9 hf
          refine lv_iinc (v := x9) (lv' := [(2, .int x9), (1, .int x8), (0, .ref (a_v 0))]) C.1 C.2.1 (dk_at dkX5_imagesKept 13 rfl) hl (k := 1) rfl (by rw [ex9]; rfl) (by decide) rfl (fun ls hl => ?_)
          refine lv_goto (tgt := 4) C.1 C.2.1 (dk_at dkX5_imagesKept 14 rfl) (by decide) ?_
          exact ih x9 x8 _ (lv_sub hl [0, 1, 2] rfl) hf
  refine L3 _ ?_ 4096 0 0 _ (lv_sub hl [0, 1, 2] rfl) hf
  clear hf
  intro v1 v2 ls hl hf
  refine lv_iload_n C.1 C.2.1 (dk_at dkX5_imagesKept 15 rfl) rfl (lv_at hl 0 rfl) ?_
  cases hf
  exact fin _ _ _ (dk_at dkX5_imagesKept 16 rfl) rfl
-- X5.count
abbrev tbX5_count : List (Nat × Instr × Nat) := [(0, .iload_n 1, 1), (1, .tableswitch 91 0 4 #[35, 43, 48, 56, 83], 35), (36, .aload_n 0, 1), (37, .getfield 19, 3), (40, .getfield 209, 3), (43, .ireturn, 1), (44, .aload_n 0, 1), (45, .invokevirtual 257, 3), (48, .ireturn, 1), (49, .aload_n 0, 1), (50, .getfield 10, 3), (53, .getfield 52, 3), (56, .ireturn, 1), (57, .aload_n 0, 1), (58, .getfield 47, 3), (61, .iconst 0, 1), (62, .aaload, 1), (63, .getfield 260, 3), (66, .ifCond .eq 15, 3), (69, .aload_n 0, 1), (70, .getfield 47, 3), (73, .iconst 0, 1), (74, .aaload, 1), (75, .getfield 264, 3), (78, .goto 5, 3), (81, .bipush (-4), 2), (83, .ireturn, 1), (84, .aload_n 0, 1), (85, .getfield 19, 3), (88, .invokevirtual 265, 3), (91, .ireturn, 1), (92, .iconst (-1), 1), (93, .ireturn, 1)]
theorem dkX5_count : dk cX5_count tbX5_count := dk_of (by decide +kernel)
abbrev cdX5_count : Cond := Cond.code yX5_count cX5_count 2 (some .int)
abbrev rmX5_count : Room := { frames := 1, cells := 0, slots := 0, locals := 22 }
theorem mwX5_count : Cond.instanceMethod yX5_count ∈ wsL_law ∧ Cond.selects RX5 yX5_count yX5_count ∈ wsL_law ∧ Cond.initialized RX5 ∈ wsL_law ∧ cdX5_count ∈ wsL_law := ⟨inr42 _ (List.mem_of_getElem? (i := 3) rfl), inr42 _ (List.mem_of_getElem? (i := 4) rfl), inr1 _ (List.mem_of_getElem? (i := 2) rfl), inr42 _ (List.mem_of_getElem? (i := 5) rfl)⟩
theorem hdX5_count : yX5_count.cls = RX5 ∧ yX5_count.cls ≠ "java/lang/invoke/MethodHandle" ∧ yX5_count.cls ≠ "java/lang/invoke/VarHandle" ∧ (parseMethodDescriptor yX5_count.desc).map (fun d => d.parameters.length) = some 1 := by decide +kernel
set_option maxHeartbeats 4000000 in
set_option maxRecDepth 100000 in
theorem kX5_count (l : Launch) (g : Gx) (a_v a_rd a_nw a_tr a_da a_i0 a_i1 a_s0 a_s1 a_s2 a_s3 a_dr : Nat → Nat) (v : VT) (rd : RT) (nw : CT) (s0 : ST) (p1 : Int32) (res : Int32) (hf : fX5_count p1 v rd nw s0 = some res) : Met l yX5_count (cdX5_count :: wsL_law) rmX5_count (va_Pc [.ref (a_v 0), .int p1] (RO g (wV g a_v a_rd a_nw a_tr a_da a_i0 a_i1 a_s0 a_s1 a_s2 a_s3 v ++ wR g a_rd a_dr rd ++ wC g a_nw nw ++ wS g a_s0 s0))) (vp_Si (fun x => x = res)) 0 0 (fun _ => False) := by
  refine Met_roi (cc := cX5_count) (maxL := 2) (by decide) rfl (Nat.le_of_ble_eq_true rfl) ?_
  intro P E Z Mi AR BE ME CO Q C fin hK hP ls hl
  have hl : lv_has ls 2 [(0, .ref (a_v 0)), (1, .int p1)] := hl
  unfold fX5_count at hf
  refine lv_iload_n C.1 C.2.1 (dk_at dkX5_count 0 rfl) rfl (lv_at hl 1 rfl) ?_
  by_cases c1 : p1 = 0
  · have hf := (if_pos c1).symm.trans hf
    refine lv_tableIn (tgt := 36) C.1 C.2.1 (dk_at dkX5_count 1 rfl) (by rw [c1]; decide) (by rw [c1]; decide) (by rw [c1]; rfl) (by decide) ?_
    refine lv_aload_n C.1 C.2.1 (dk_at dkX5_count 2 rfl) rfl (lv_at hl 0 rfl) ?_
    refine r_get (v := .ref (a_nw 0)) C hK hP (fun w h => List.mem_cons_of_mem _ (inlX5 w h)) 0 rfl rfl 1 (by decide) (List.mem_cons_of_mem _ (inr1 _ (List.mem_of_getElem? (i := 19) rfl))) rfl (dk_at dkX5_count 3 rfl) ?_
    refine r_get (v := .int (cSe nw)) C hK hP (fun w h => List.mem_cons_of_mem _ (inlX0 w h)) 7 rfl rfl 8 (by decide) (List.mem_cons_of_mem _ (inr35 _ (List.mem_of_getElem? (i := 6) rfl))) rfl (dk_at dkX5_count 4 rfl) ?_
    cases hf
    exact fin _ _ _ (dk_at dkX5_count 5 rfl) rfl
  have hf := (if_neg c1).symm.trans hf
  by_cases c2 : p1 = 1
  · have hf := (if_pos c2).symm.trans hf
    refine lv_tableIn (tgt := 44) C.1 C.2.1 (dk_at dkX5_count 1 rfl) (by rw [c2]; decide) (by rw [c2]; decide) (by rw [c2]; rfl) (by decide) ?_
    refine lv_aload_n C.1 C.2.1 (dk_at dkX5_count 6 rfl) rfl (lv_at hl 0 rfl) ?_
    obtain ⟨r3, hq4, hf⟩ := bd1_at hf
    refine r_roV (As := []) (rest := []) C (kX5_imagesKept l g a_v a_rd a_nw a_tr a_da a_i0 a_i1 a_s0 a_s1 a_s2 a_s3 v r3 hq4) (cwV0 C (inr42 _ (List.mem_of_getElem? (i := 8) rfl)) mwX5_imagesKept hdX5_imagesKept ⟨Nat.le_of_ble_eq_true rfl, Nat.le_of_ble_eq_true rfl⟩) hK (hP.sub [0, 1, 2, 3, 4] rfl) rfl rfl rfl hl.1 rfl (Nat.le_of_ble_eq_true rfl) ⟨Nat.zero_le _, Nat.zero_le _⟩ (dk_at dkX5_count 7 rfl) ?_
    cases hf
    exact fin _ _ _ (dk_at dkX5_count 8 rfl) rfl
  have hf := (if_neg c2).symm.trans hf
  by_cases c5 : p1 = 2
  · have hf := (if_pos c5).symm.trans hf
    refine lv_tableIn (tgt := 49) C.1 C.2.1 (dk_at dkX5_count 1 rfl) (by rw [c5]; decide) (by rw [c5]; decide) (by rw [c5]; rfl) (by decide) ?_
    refine lv_aload_n C.1 C.2.1 (dk_at dkX5_count 9 rfl) rfl (lv_at hl 0 rfl) ?_
    refine r_get (v := .ref (a_rd 0)) C hK hP (fun w h => List.mem_cons_of_mem _ (inlX5 w h)) 0 rfl rfl 0 (by decide) (List.mem_cons_of_mem _ (inr1 _ (List.mem_of_getElem? (i := 15) rfl))) rfl (dk_at dkX5_count 10 rfl) ?_
    refine r_get (v := .int (rSz rd)) C hK hP (fun w h => List.mem_cons_of_mem _ (inlX2 w h)) 5 rfl rfl 1 (by decide) (List.mem_cons_of_mem _ (inr5 _ (List.mem_of_getElem? (i := 13) rfl))) rfl (dk_at dkX5_count 11 rfl) ?_
    cases hf
    exact fin _ _ _ (dk_at dkX5_count 12 rfl) rfl
  have hf := (if_neg c5).symm.trans hf
  by_cases c6 : p1 = 3
  · have hf := (if_pos c6).symm.trans hf
    refine lv_tableIn (tgt := 57) C.1 C.2.1 (dk_at dkX5_count 1 rfl) (by rw [c6]; decide) (by rw [c6]; decide) (by rw [c6]; rfl) (by decide) ?_
    refine lv_aload_n C.1 C.2.1 (dk_at dkX5_count 13 rfl) rfl (lv_at hl 0 rfl) ?_
    refine r_get (v := .ref (a_v 4)) C hK hP (fun w h => List.mem_cons_of_mem _ (inlX5 w h)) 0 rfl rfl 7 (by decide) (List.mem_cons_of_mem _ (inr2 _ (List.mem_of_getElem? (i := 7) rfl))) rfl (dk_at dkX5_count 14 rfl) ?_
    refine lv_iconst (v := 0) C.1 C.2.1 (dk_at dkX5_count 15 rfl) (by decide) ?_
    refine r_alds (b := a_s0 0) C hK hP 4 rfl (in_c (by decide)) rfl (dk_at dkX5_count 16 rfl) ?_
    refine r_get (v := .int (sIs s0)) C hK hP (fun w h => List.mem_cons_of_mem _ (inlX4 w h)) 18 rfl rfl 0 (by decide) (List.mem_cons_of_mem _ (inr42 _ (List.mem_of_getElem? (i := 6) rfl))) rfl (dk_at dkX5_count 17 rfl) ?_
    refine lv_if_eq (tgt := 81) C.1 C.2.1 (dk_at dkX5_count 18 rfl) (by decide) (fun c7 => ?_) (fun c7 => ?_)
    · have hf := (if_pos c7).symm.trans hf
      refine lv_bipush (v := (-4)) C.1 C.2.1 (dk_at dkX5_count 25 rfl) (by decide) ?_
      cases hf
      exact fin _ _ _ (dk_at dkX5_count 26 rfl) rfl
    · have hf := (if_neg c7).symm.trans hf
      refine lv_aload_n C.1 C.2.1 (dk_at dkX5_count 19 rfl) rfl (lv_at hl 0 rfl) ?_
      refine r_get (v := .ref (a_v 4)) C hK hP (fun w h => List.mem_cons_of_mem _ (inlX5 w h)) 0 rfl rfl 7 (by decide) (List.mem_cons_of_mem _ (inr2 _ (List.mem_of_getElem? (i := 7) rfl))) rfl (dk_at dkX5_count 20 rfl) ?_
      refine lv_iconst (v := 0) C.1 C.2.1 (dk_at dkX5_count 21 rfl) (by decide) ?_
      refine r_alds (b := a_s0 0) C hK hP 4 rfl (in_c (by decide)) rfl (dk_at dkX5_count 22 rfl) ?_
      refine r_get (v := .int (sSz s0)) C hK hP (fun w h => List.mem_cons_of_mem _ (inlX4 w h)) 18 rfl rfl 2 (by decide) (List.mem_cons_of_mem _ (inr42 _ (List.mem_of_getElem? (i := 7) rfl))) rfl (dk_at dkX5_count 23 rfl) ?_
      refine lv_goto (tgt := 83) C.1 C.2.1 (dk_at dkX5_count 24 rfl) (by decide) ?_
      cases hf
      exact fin _ _ _ (dk_at dkX5_count 26 rfl) rfl
  have hf := (if_neg c6).symm.trans hf
  by_cases c8 : p1 = 4
  · have hf := (if_pos c8).symm.trans hf
    refine lv_tableIn (tgt := 84) C.1 C.2.1 (dk_at dkX5_count 1 rfl) (by rw [c8]; decide) (by rw [c8]; decide) (by rw [c8]; rfl) (by decide) ?_
    refine lv_aload_n C.1 C.2.1 (dk_at dkX5_count 27 rfl) rfl (lv_at hl 0 rfl) ?_
    refine r_get (v := .ref (a_nw 0)) C hK hP (fun w h => List.mem_cons_of_mem _ (inlX5 w h)) 0 rfl rfl 1 (by decide) (List.mem_cons_of_mem _ (inr1 _ (List.mem_of_getElem? (i := 19) rfl))) rfl (dk_at dkX5_count 28 rfl) ?_
    obtain ⟨r9, hq10, hf⟩ := bd1_at hf
    refine r_roV (As := []) (rest := []) C (kX0_allForces l g a_nw nw r9 hq10) (cwV0 C (inr42 _ (List.mem_of_getElem? (i := 12) rfl)) mwX0_allForces hdX0_allForces ⟨Nat.le_of_ble_eq_true rfl, Nat.le_of_ble_eq_true rfl⟩) hK (hP.sub [7, 8, 9, 10, 11, 12, 13, 14, 15, 16, 17] rfl) rfl rfl rfl hl.1 rfl (Nat.le_of_ble_eq_true rfl) ⟨Nat.zero_le _, Nat.zero_le _⟩ (dk_at dkX5_count 29 rfl) ?_
    cases hf
    exact fin _ _ _ (dk_at dkX5_count 30 rfl) rfl
  have hf := (if_neg c8).symm.trans hf
  have c1n : p1.toInt ≠ 0 := fun q => c1 (by rw [← Int32.ofInt_toInt p1, q]; rfl)
  have c2n : p1.toInt ≠ 1 := fun q => c2 (by rw [← Int32.ofInt_toInt p1, q]; rfl)
  have c5n : p1.toInt ≠ 2 := fun q => c5 (by rw [← Int32.ofInt_toInt p1, q]; rfl)
  have c6n : p1.toInt ≠ 3 := fun q => c6 (by rw [← Int32.ofInt_toInt p1, q]; rfl)
  have c8n : p1.toInt ≠ 4 := fun q => c8 (by rw [← Int32.ofInt_toInt p1, q]; rfl)
  refine lv_tableOut (tgt := 92) C.1 C.2.1 (dk_at dkX5_count 1 rfl) (by omega) (by decide) ?_
  refine lv_iconst (v := (-1)) C.1 C.2.1 (dk_at dkX5_count 31 rfl) (by decide) ?_
  cases hf
  exact fin _ _ _ (dk_at dkX5_count 32 rfl) rfl
