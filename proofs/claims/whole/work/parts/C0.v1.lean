-- X5.feed
abbrev tbX5_feed : List (Nat × Instr × Nat) := [(0, .iload_n 1, 1), (1, .ifCond .lt 9, 3), (4, .iload_n 1, 1), (5, .bipush 127, 2), (7, .if_icmp .le 5, 3), (10, .iconst (-1), 1), (11, .ireturn, 1), (12, .aload_n 0, 1), (13, .getfield 10, 3), (16, .getfield 52, 3), (19, .sipush 160, 3), (22, .if_icmp .lt 6, 3), (25, .bipush (-3), 2), (27, .ireturn, 1), (28, .aload_n 0, 1), (29, .getfield 10, 3), (32, .getfield 56, 3), (35, .aload_n 0, 1), (36, .getfield 10, 3), (39, .getfield 52, 3), (42, .iload_n 1, 1), (43, .i2b, 1), (44, .bastore, 1), (45, .aload_n 0, 1), (46, .getfield 10, 3), (49, .dup, 1), (50, .getfield 52, 3), (53, .iconst 1, 1), (54, .iadd, 1), (55, .putfield 52, 3), (58, .aload_n 0, 1), (59, .getfield 10, 3), (62, .getfield 52, 3), (65, .ireturn, 1)]
theorem dkX5_feed : dk cX5_feed tbX5_feed := dk_of (by decide +kernel)
abbrev cdX5_feed : Cond := Cond.code yX5_feed cX5_feed 2 (some .int)
abbrev rmX5_feed : Room := { frames := 0, cells := 0, slots := 0, locals := 0 }
theorem mwX5_feed : Cond.instanceMethod yX5_feed ∈ wsL_law ∧ Cond.selects RX5 yX5_feed yX5_feed ∈ wsL_law ∧ Cond.initialized RX5 ∈ wsL_law ∧ cdX5_feed ∈ wsL_law := ⟨inr5 _ (List.mem_of_getElem? (i := 10) rfl), inr5 _ (List.mem_of_getElem? (i := 11) rfl), inr1 _ (List.mem_of_getElem? (i := 2) rfl), inr5 _ (List.mem_of_getElem? (i := 12) rfl)⟩
theorem hdX5_feed : yX5_feed.cls = RX5 ∧ yX5_feed.cls ≠ "java/lang/invoke/MethodHandle" ∧ yX5_feed.cls ≠ "java/lang/invoke/VarHandle" ∧ (parseMethodDescriptor yX5_feed.desc).map (fun d => d.parameters.length) = some 1 := by decide +kernel
set_option maxHeartbeats 4000000 in
set_option maxRecDepth 100000 in
theorem kX5_feed (l : Launch) (g : Gx) (sz : Nat) (a_v a_rd a_nw a_tr a_da a_i0 a_i1 a_s0 a_s1 a_s2 a_s3 a_dr : Nat → Nat) (v : VT) (rd : RT) (p1 : Int32) (res : Int32) (rd_o : RT) (hf : fX5_feed p1 v rd = some (res, rd_o)) : Met l yX5_feed (cdX5_feed :: wsL_law) rmX5_feed (va_Pc [.ref (a_v 0), .int p1] (RWp g sz (wV g a_v a_rd a_nw a_tr a_da a_i0 a_i1 a_s0 a_s1 a_s2 a_s3 v ++ wR g a_rd a_dr rd))) (va_Qi (fun x (_ : Unit) => x = res) (fun _ => RWq g (va_A (wV g a_v a_rd a_nw a_tr a_da a_i0 a_i1 a_s0 a_s1 a_s2 a_s3 v ++ wR g a_rd a_dr rd) sz) (wV g a_v a_rd a_nw a_tr a_da a_i0 a_i1 a_s0 a_s1 a_s2 a_s3 v ++ wR g a_rd a_dr rd_o)) (va_A (wV g a_v a_rd a_nw a_tr a_da a_i0 a_i1 a_s0 a_s1 a_s2 a_s3 v ++ wR g a_rd a_dr rd) sz)) 0 0 (va_A (wV g a_v a_rd a_nw a_tr a_da a_i0 a_i1 a_s0 a_s1 a_s2 a_s3 v ++ wR g a_rd a_dr rd) sz) := by
  refine Met_rwi (cc := cX5_feed) (maxL := 2) (by decide) rfl (Nat.le_of_ble_eq_true rfl) ?_
  intro P E Z Mi AR BE ME CO A Q C hK hA fin w ls hl
  have hl : lv_has ls 2 [(0, .ref (a_v 0)), (1, .int p1)] := hl
  unfold fX5_feed at hf
  refine lv_iload_n C.1 C.2.1 (dk_at dkX5_feed 0 rfl) rfl (lv_at hl 1 rfl) ?_
  refine lv_if_lt (tgt := 10) C.1 C.2.1 (dk_at dkX5_feed 1 rfl) (by decide) (fun c1 => ?_) (fun c1 => ?_)
  · have hf := (if_pos c1).symm.trans hf
    refine lv_iconst (v := (-1)) C.1 C.2.1 (dk_at dkX5_feed 5 rfl) (by decide) ?_
    cases hf
    exact fin _ _ _ _ _ (dk_at dkX5_feed 6 rfl) rfl w
  · have hf := (if_neg c1).symm.trans hf
    refine lv_iload_n C.1 C.2.1 (dk_at dkX5_feed 2 rfl) rfl (lv_at hl 1 rfl) ?_
    refine lv_bipush (v := 127) C.1 C.2.1 (dk_at dkX5_feed 3 rfl) (by decide) ?_
    refine lv_icmp_le (tgt := 12) C.1 C.2.1 (dk_at dkX5_feed 4 rfl) (by decide) (fun c2 => ?_) (fun c2 => ?_)
    · have hf := (if_pos c2).symm.trans hf
      refine lv_aload_n C.1 C.2.1 (dk_at dkX5_feed 7 rfl) rfl (lv_at hl 0 rfl) ?_
      refine r_get (v := .ref (a_rd 0)) C hK w.1 (fun w h => List.mem_cons_of_mem _ (inlX5 w h)) 0 rfl rfl 0 (by decide) (List.mem_cons_of_mem _ (inr1 _ (List.mem_of_getElem? (i := 15) rfl))) rfl (dk_at dkX5_feed 8 rfl) ?_
      refine r_get (v := .int (rSz rd)) C hK w.1 (fun w h => List.mem_cons_of_mem _ (inlX2 w h)) 5 rfl rfl 1 (by decide) (List.mem_cons_of_mem _ (inr5 _ (List.mem_of_getElem? (i := 13) rfl))) rfl (dk_at dkX5_feed 9 rfl) ?_
      refine lv_sipush (v := 160) C.1 C.2.1 (dk_at dkX5_feed 10 rfl) (by decide) ?_
      refine lv_icmp_lt (tgt := 28) C.1 C.2.1 (dk_at dkX5_feed 11 rfl) (by decide) (fun c3 => ?_) (fun c3 => ?_)
      · have hf := (if_pos c3).symm.trans hf
        refine lv_aload_n C.1 C.2.1 (dk_at dkX5_feed 14 rfl) rfl (lv_at hl 0 rfl) ?_
        refine r_get (v := .ref (a_rd 0)) C hK w.1 (fun w h => List.mem_cons_of_mem _ (inlX5 w h)) 0 rfl rfl 0 (by decide) (List.mem_cons_of_mem _ (inr1 _ (List.mem_of_getElem? (i := 15) rfl))) rfl (dk_at dkX5_feed 15 rfl) ?_
        refine r_get (v := .ref (a_rd 1)) C hK w.1 (fun w h => List.mem_cons_of_mem _ (inlX2 w h)) 5 rfl rfl 0 (by decide) (List.mem_cons_of_mem _ (inr5 _ (List.mem_of_getElem? (i := 14) rfl))) rfl (dk_at dkX5_feed 16 rfl) ?_
        refine lv_aload_n C.1 C.2.1 (dk_at dkX5_feed 17 rfl) rfl (lv_at hl 0 rfl) ?_
        refine r_get (v := .ref (a_rd 0)) C hK w.1 (fun w h => List.mem_cons_of_mem _ (inlX5 w h)) 0 rfl rfl 0 (by decide) (List.mem_cons_of_mem _ (inr1 _ (List.mem_of_getElem? (i := 15) rfl))) rfl (dk_at dkX5_feed 18 rfl) ?_
        refine r_get (v := .int (rSz rd)) C hK w.1 (fun w h => List.mem_cons_of_mem _ (inlX2 w h)) 5 rfl rfl 1 (by decide) (List.mem_cons_of_mem _ (inr5 _ (List.mem_of_getElem? (i := 13) rfl))) rfl (dk_at dkX5_feed 19 rfl) ?_
        refine lv_iload_n C.1 C.2.1 (dk_at dkX5_feed 20 rfl) rfl (lv_at hl 1 rfl) ?_
        refine lv_i2b C.1 C.2.1 (dk_at dkX5_feed 21 rfl) rfl ?_
        refine lv_topi (fun x4 ex4 => ?_)
        have hf := nm_at ex4 hf
        obtain ⟨h5, hf⟩ := gd_at hf
        refine r_bast (k := (rSz rd).toNatClampNeg) (f := (rTa rd)) C hK w 6 rfl h5 rfl (dk_at dkX5_feed 22 rfl) (fun H locs w => ?_)
        obtain ⟨rd_6, erd_6⟩ : ∃ z : RT, z = rTa' rd (upd (rTa rd) ((rSz rd).toNatClampNeg) (vp_nar .byte x4)) := ⟨_, rfl⟩
        have hf := nm_at erd_6 hf
        have w : Wd g A Z.heap (wV g a_v a_rd a_nw a_tr a_da a_i0 a_i1 a_s0 a_s1 a_s2 a_s3 v ++ wR g a_rd a_dr rd_6) H locs := by rw [erd_6]; exact w
        refine lv_aload_n C.1 C.2.1 (dk_at dkX5_feed 23 rfl) rfl (lv_at hl 0 rfl) ?_
        refine r_get (v := .ref (a_rd 0)) C hK w.1 (fun w h => List.mem_cons_of_mem _ (inlX5 w h)) 0 rfl rfl 0 (by decide) (List.mem_cons_of_mem _ (inr1 _ (List.mem_of_getElem? (i := 15) rfl))) rfl (dk_at dkX5_feed 24 rfl) ?_
        refine lv_dup C.1 C.2.1 (dk_at dkX5_feed 25 rfl) rfl ?_
        refine r_get (v := .int (rSz rd_6)) C hK w.1 (fun w h => List.mem_cons_of_mem _ (inlX2 w h)) 5 rfl rfl 1 (by decide) (List.mem_cons_of_mem _ (inr5 _ (List.mem_of_getElem? (i := 13) rfl))) rfl (dk_at dkX5_feed 26 rfl) ?_
        refine lv_iconst (v := 1) C.1 C.2.1 (dk_at dkX5_feed 27 rfl) (by decide) ?_
        refine lv_iadd C.1 C.2.1 (dk_at dkX5_feed 28 rfl) ?_
        refine lv_topi (fun x7 ex7 => ?_)
        have hf := nm_at ex7 hf
        refine r_put (v := .int x7) C hK w (fun w h => List.mem_cons_of_mem _ (inlX2 w h)) tyX2 tyX2_ok nmX2 5 rfl rfl 1 (by decide) (List.mem_cons_of_mem _ (inr5 _ (List.mem_of_getElem? (i := 13) rfl))) rfl rfl rfl (Nat.le_of_ble_eq_true rfl) (dk_at dkX5_feed 29 rfl) (fun H locs w => ?_)
        obtain ⟨rd_8, erd_8⟩ : ∃ z : RT, z = rSz' rd_6 x7 := ⟨_, rfl⟩
        have hf := nm_at erd_8 hf
        have w : Wd g A Z.heap (wV g a_v a_rd a_nw a_tr a_da a_i0 a_i1 a_s0 a_s1 a_s2 a_s3 v ++ wR g a_rd a_dr rd_8) H locs := by rw [erd_8]; exact w
        refine lv_aload_n C.1 C.2.1 (dk_at dkX5_feed 30 rfl) rfl (lv_at hl 0 rfl) ?_
        refine r_get (v := .ref (a_rd 0)) C hK w.1 (fun w h => List.mem_cons_of_mem _ (inlX5 w h)) 0 rfl rfl 0 (by decide) (List.mem_cons_of_mem _ (inr1 _ (List.mem_of_getElem? (i := 15) rfl))) rfl (dk_at dkX5_feed 31 rfl) ?_
        refine r_get (v := .int (rSz rd_8)) C hK w.1 (fun w h => List.mem_cons_of_mem _ (inlX2 w h)) 5 rfl rfl 1 (by decide) (List.mem_cons_of_mem _ (inr5 _ (List.mem_of_getElem? (i := 13) rfl))) rfl (dk_at dkX5_feed 32 rfl) ?_
        cases hf
        exact fin _ _ _ _ _ (dk_at dkX5_feed 33 rfl) rfl w
      · have hf := (if_neg c3).symm.trans hf
        refine lv_bipush (v := (-3)) C.1 C.2.1 (dk_at dkX5_feed 12 rfl) (by decide) ?_
        cases hf
        exact fin _ _ _ _ _ (dk_at dkX5_feed 13 rfl) rfl w
    · have hf := (if_neg c2).symm.trans hf
      refine lv_iconst (v := (-1)) C.1 C.2.1 (dk_at dkX5_feed 5 rfl) (by decide) ?_
      cases hf
      exact fin _ _ _ _ _ (dk_at dkX5_feed 6 rfl) rfl w
-- X5.end
abbrev tbX5_end : List (Nat × Instr × Nat) := [(0, .iload_n 1, 1), (1, .ifCond .lt 14, 3), (4, .iload_n 1, 1), (5, .aload_n 0, 1), (6, .getfield 10, 3), (9, .getfield 52, 3), (12, .if_icmp .le 5, 3), (15, .iconst (-1), 1), (16, .ireturn, 1), (17, .aload_n 0, 1), (18, .getfield 10, 3), (21, .getfield 52, 3), (24, .istore_n 2, 1), (25, .aload_n 0, 1), (26, .getfield 10, 3), (29, .iload_n 1, 1), (30, .putfield 52, 3), (33, .iload_n 2, 1), (34, .ireturn, 1)]
theorem dkX5_end : dk cX5_end tbX5_end := dk_of (by decide +kernel)
abbrev cdX5_end : Cond := Cond.code yX5_end cX5_end 3 (some .int)
abbrev rmX5_end : Room := { frames := 0, cells := 0, slots := 0, locals := 0 }
theorem mwX5_end : Cond.instanceMethod yX5_end ∈ wsL_law ∧ Cond.selects RX5 yX5_end yX5_end ∈ wsL_law ∧ Cond.initialized RX5 ∈ wsL_law ∧ cdX5_end ∈ wsL_law := ⟨inr6 _ (List.mem_of_getElem? (i := 1) rfl), inr6 _ (List.mem_of_getElem? (i := 2) rfl), inr1 _ (List.mem_of_getElem? (i := 2) rfl), inr6 _ (List.mem_of_getElem? (i := 3) rfl)⟩
theorem hdX5_end : yX5_end.cls = RX5 ∧ yX5_end.cls ≠ "java/lang/invoke/MethodHandle" ∧ yX5_end.cls ≠ "java/lang/invoke/VarHandle" ∧ (parseMethodDescriptor yX5_end.desc).map (fun d => d.parameters.length) = some 1 := by decide +kernel
set_option maxHeartbeats 4000000 in
set_option maxRecDepth 100000 in
theorem kX5_end (l : Launch) (g : Gx) (sz : Nat) (a_v a_rd a_nw a_tr a_da a_i0 a_i1 a_s0 a_s1 a_s2 a_s3 a_dr : Nat → Nat) (v : VT) (rd : RT) (p1 : Int32) (res : Int32) (rd_o : RT) (hf : fX5_end p1 v rd = some (res, rd_o)) : Met l yX5_end (cdX5_end :: wsL_law) rmX5_end (va_Pc [.ref (a_v 0), .int p1] (RWp g sz (wV g a_v a_rd a_nw a_tr a_da a_i0 a_i1 a_s0 a_s1 a_s2 a_s3 v ++ wR g a_rd a_dr rd))) (va_Qi (fun x (_ : Unit) => x = res) (fun _ => RWq g (va_A (wV g a_v a_rd a_nw a_tr a_da a_i0 a_i1 a_s0 a_s1 a_s2 a_s3 v ++ wR g a_rd a_dr rd) sz) (wV g a_v a_rd a_nw a_tr a_da a_i0 a_i1 a_s0 a_s1 a_s2 a_s3 v ++ wR g a_rd a_dr rd_o)) (va_A (wV g a_v a_rd a_nw a_tr a_da a_i0 a_i1 a_s0 a_s1 a_s2 a_s3 v ++ wR g a_rd a_dr rd) sz)) 0 0 (va_A (wV g a_v a_rd a_nw a_tr a_da a_i0 a_i1 a_s0 a_s1 a_s2 a_s3 v ++ wR g a_rd a_dr rd) sz) := by
  refine Met_rwi (cc := cX5_end) (maxL := 3) (by decide) rfl (Nat.le_of_ble_eq_true rfl) ?_
  intro P E Z Mi AR BE ME CO A Q C hK hA fin w ls hl
  have hl : lv_has ls 3 [(0, .ref (a_v 0)), (1, .int p1)] := hl
  unfold fX5_end at hf
  refine lv_iload_n C.1 C.2.1 (dk_at dkX5_end 0 rfl) rfl (lv_at hl 1 rfl) ?_
  refine lv_if_lt (tgt := 15) C.1 C.2.1 (dk_at dkX5_end 1 rfl) (by decide) (fun c1 => ?_) (fun c1 => ?_)
  · have hf := (if_pos c1).symm.trans hf
    refine lv_iconst (v := (-1)) C.1 C.2.1 (dk_at dkX5_end 7 rfl) (by decide) ?_
    cases hf
    exact fin _ _ _ _ _ (dk_at dkX5_end 8 rfl) rfl w
  · have hf := (if_neg c1).symm.trans hf
    refine lv_iload_n C.1 C.2.1 (dk_at dkX5_end 2 rfl) rfl (lv_at hl 1 rfl) ?_
    refine lv_aload_n C.1 C.2.1 (dk_at dkX5_end 3 rfl) rfl (lv_at hl 0 rfl) ?_
    refine r_get (v := .ref (a_rd 0)) C hK w.1 (fun w h => List.mem_cons_of_mem _ (inlX5 w h)) 0 rfl rfl 0 (by decide) (List.mem_cons_of_mem _ (inr1 _ (List.mem_of_getElem? (i := 15) rfl))) rfl (dk_at dkX5_end 4 rfl) ?_
    refine r_get (v := .int (rSz rd)) C hK w.1 (fun w h => List.mem_cons_of_mem _ (inlX2 w h)) 5 rfl rfl 1 (by decide) (List.mem_cons_of_mem _ (inr5 _ (List.mem_of_getElem? (i := 13) rfl))) rfl (dk_at dkX5_end 5 rfl) ?_
    refine lv_icmp_le (tgt := 17) C.1 C.2.1 (dk_at dkX5_end 6 rfl) (by decide) (fun c2 => ?_) (fun c2 => ?_)
    · have hf := (if_pos c2).symm.trans hf
      refine lv_aload_n C.1 C.2.1 (dk_at dkX5_end 9 rfl) rfl (lv_at hl 0 rfl) ?_
      refine r_get (v := .ref (a_rd 0)) C hK w.1 (fun w h => List.mem_cons_of_mem _ (inlX5 w h)) 0 rfl rfl 0 (by decide) (List.mem_cons_of_mem _ (inr1 _ (List.mem_of_getElem? (i := 15) rfl))) rfl (dk_at dkX5_end 10 rfl) ?_
      refine r_get (v := .int (rSz rd)) C hK w.1 (fun w h => List.mem_cons_of_mem _ (inlX2 w h)) 5 rfl rfl 1 (by decide) (List.mem_cons_of_mem _ (inr5 _ (List.mem_of_getElem? (i := 13) rfl))) rfl (dk_at dkX5_end 11 rfl) ?_
      refine lv_istore_n (lv' := [(2, .int (rSz rd)), (0, .ref (a_v 0)), (1, .int p1)]) C.1 C.2.1 (dk_at dkX5_end 12 rfl) rfl hl (by decide) rfl (fun ls hl => ?_)
      refine lv_aload_n C.1 C.2.1 (dk_at dkX5_end 13 rfl) rfl (lv_at hl 1 rfl) ?_
      refine r_get (v := .ref (a_rd 0)) C hK w.1 (fun w h => List.mem_cons_of_mem _ (inlX5 w h)) 0 rfl rfl 0 (by decide) (List.mem_cons_of_mem _ (inr1 _ (List.mem_of_getElem? (i := 15) rfl))) rfl (dk_at dkX5_end 14 rfl) ?_
      refine lv_iload_n C.1 C.2.1 (dk_at dkX5_end 15 rfl) rfl (lv_at hl 2 rfl) ?_
      refine r_put (v := .int p1) C hK w (fun w h => List.mem_cons_of_mem _ (inlX2 w h)) tyX2 tyX2_ok nmX2 5 rfl rfl 1 (by decide) (List.mem_cons_of_mem _ (inr5 _ (List.mem_of_getElem? (i := 13) rfl))) rfl rfl rfl (Nat.le_of_ble_eq_true rfl) (dk_at dkX5_end 16 rfl) (fun H locs w => ?_)
      obtain ⟨rd_3, erd_3⟩ : ∃ z : RT, z = rSz' rd p1 := ⟨_, rfl⟩
      have hf := nm_at erd_3 hf
      have w : Wd g A Z.heap (wV g a_v a_rd a_nw a_tr a_da a_i0 a_i1 a_s0 a_s1 a_s2 a_s3 v ++ wR g a_rd a_dr rd_3) H locs := by rw [erd_3]; exact w
      refine lv_iload_n C.1 C.2.1 (dk_at dkX5_end 17 rfl) rfl (lv_at hl 0 rfl) ?_
      cases hf
      exact fin _ _ _ _ _ (dk_at dkX5_end 18 rfl) rfl w
    · have hf := (if_neg c2).symm.trans hf
      refine lv_iconst (v := (-1)) C.1 C.2.1 (dk_at dkX5_end 7 rfl) (by decide) ?_
      cases hf
      exact fin _ _ _ _ _ (dk_at dkX5_end 8 rfl) rfl w
-- X5.fault
abbrev tbX5_fault : List (Nat × Instr × Nat) := [(0, .aload_n 0, 1), (1, .getfield 10, 3), (4, .getfield 64, 3), (7, .ireturn, 1)]
theorem dkX5_fault : dk cX5_fault tbX5_fault := dk_of (by decide +kernel)
abbrev cdX5_fault : Cond := Cond.code yX5_fault cX5_fault 1 (some .int)
abbrev rmX5_fault : Room := { frames := 0, cells := 0, slots := 0, locals := 0 }
theorem mwX5_fault : Cond.instanceMethod yX5_fault ∈ wsL_law ∧ Cond.selects RX5 yX5_fault yX5_fault ∈ wsL_law ∧ Cond.initialized RX5 ∈ wsL_law ∧ cdX5_fault ∈ wsL_law := ⟨inr16 _ (List.mem_of_getElem? (i := 4) rfl), inr16 _ (List.mem_of_getElem? (i := 5) rfl), inr1 _ (List.mem_of_getElem? (i := 2) rfl), inr16 _ (List.mem_of_getElem? (i := 6) rfl)⟩
theorem hdX5_fault : yX5_fault.cls = RX5 ∧ yX5_fault.cls ≠ "java/lang/invoke/MethodHandle" ∧ yX5_fault.cls ≠ "java/lang/invoke/VarHandle" ∧ (parseMethodDescriptor yX5_fault.desc).map (fun d => d.parameters.length) = some 0 := by decide +kernel
set_option maxHeartbeats 4000000 in
set_option maxRecDepth 100000 in
theorem kX5_fault (l : Launch) (g : Gx) (a_v a_rd a_nw a_tr a_da a_i0 a_i1 a_s0 a_s1 a_s2 a_s3 a_dr : Nat → Nat) (v : VT) (rd : RT) (res : Int32) (hf : fX5_fault v rd = some res) : Met l yX5_fault (cdX5_fault :: wsL_law) rmX5_fault (va_Pc [.ref (a_v 0)] (RO g (wV g a_v a_rd a_nw a_tr a_da a_i0 a_i1 a_s0 a_s1 a_s2 a_s3 v ++ wR g a_rd a_dr rd))) (vp_Si (fun x => x = res)) 0 0 (fun _ => False) := by
  refine Met_roi (cc := cX5_fault) (maxL := 1) (by decide) rfl (Nat.le_of_ble_eq_true rfl) ?_
  intro P E Z Mi AR BE ME CO Q C fin hK hP ls hl
  have hl : lv_has ls 1 [(0, .ref (a_v 0))] := hl
  unfold fX5_fault at hf
  refine lv_aload_n C.1 C.2.1 (dk_at dkX5_fault 0 rfl) rfl (lv_at hl 0 rfl) ?_
  refine r_get (v := .ref (a_rd 0)) C hK hP (fun w h => List.mem_cons_of_mem _ (inlX5 w h)) 0 rfl rfl 0 (by decide) (List.mem_cons_of_mem _ (inr1 _ (List.mem_of_getElem? (i := 15) rfl))) rfl (dk_at dkX5_fault 1 rfl) ?_
  refine r_get (v := .int (rFl rd)) C hK hP (fun w h => List.mem_cons_of_mem _ (inlX2 w h)) 5 rfl rfl 3 (by decide) (List.mem_cons_of_mem _ (inr6 _ (List.mem_of_getElem? (i := 12) rfl))) rfl (dk_at dkX5_fault 2 rfl) ?_
  cases hf
  exact fin _ _ _ (dk_at dkX5_fault 3 rfl) rfl
-- X5.rule
abbrev tbX5_rule : List (Nat × Instr × Nat) := [(0, .iload_n 1, 1), (1, .tableswitch 66 0 3 #[31, 39, 47, 58], 31), (32, .aload_n 0, 1), (33, .getfield 19, 3), (36, .getfield 77, 3), (39, .ireturn, 1), (40, .aload_n 0, 1), (41, .getfield 19, 3), (44, .getfield 80, 3), (47, .ireturn, 1), (48, .aload_n 0, 1), (49, .getfield 19, 3), (52, .getfield 83, 3), (55, .invokestatic 87, 3), (58, .ireturn, 1), (59, .aload_n 0, 1), (60, .getfield 19, 3), (63, .invokevirtual 93, 3), (66, .ireturn, 1), (67, .iconst (-1), 1), (68, .ireturn, 1)]
theorem dkX5_rule : dk cX5_rule tbX5_rule := dk_of (by decide +kernel)
abbrev cdX5_rule : Cond := Cond.code yX5_rule cX5_rule 2 (some .int)
abbrev rmX5_rule : Room := { frames := 1, cells := 0, slots := 0, locals := 22 }
theorem mwX5_rule : Cond.instanceMethod yX5_rule ∈ wsL_law ∧ Cond.selects RX5 yX5_rule yX5_rule ∈ wsL_law ∧ Cond.initialized RX5 ∈ wsL_law ∧ cdX5_rule ∈ wsL_law := ⟨inr16 _ (List.mem_of_getElem? (i := 12) rfl), inr16 _ (List.mem_of_getElem? (i := 13) rfl), inr1 _ (List.mem_of_getElem? (i := 2) rfl), inr16 _ (List.mem_of_getElem? (i := 14) rfl)⟩
theorem hdX5_rule : yX5_rule.cls = RX5 ∧ yX5_rule.cls ≠ "java/lang/invoke/MethodHandle" ∧ yX5_rule.cls ≠ "java/lang/invoke/VarHandle" ∧ (parseMethodDescriptor yX5_rule.desc).map (fun d => d.parameters.length) = some 1 := by decide +kernel
set_option maxHeartbeats 4000000 in
set_option maxRecDepth 100000 in
theorem kX5_rule (l : Launch) (g : Gx) (a_v a_rd a_nw a_tr a_da a_i0 a_i1 a_s0 a_s1 a_s2 a_s3 : Nat → Nat) (v : VT) (nw : CT) (p1 : Int32) (res : Int32) (hf : fX5_rule p1 v nw = some res) : Met l yX5_rule (cdX5_rule :: wsL_law) rmX5_rule (va_Pc [.ref (a_v 0), .int p1] (RO g (wV g a_v a_rd a_nw a_tr a_da a_i0 a_i1 a_s0 a_s1 a_s2 a_s3 v ++ wC g a_nw nw))) (vp_Si (fun x => x = res)) 0 0 (fun _ => False) := by
  refine Met_roi (cc := cX5_rule) (maxL := 2) (by decide) rfl (Nat.le_of_ble_eq_true rfl) ?_
  intro P E Z Mi AR BE ME CO Q C fin hK hP ls hl
  have hl : lv_has ls 2 [(0, .ref (a_v 0)), (1, .int p1)] := hl
  unfold fX5_rule at hf
  refine lv_iload_n C.1 C.2.1 (dk_at dkX5_rule 0 rfl) rfl (lv_at hl 1 rfl) ?_
  by_cases c1 : p1 = 0
  · have hf := (if_pos c1).symm.trans hf
    refine lv_tableIn (tgt := 32) C.1 C.2.1 (dk_at dkX5_rule 1 rfl) (by rw [c1]; decide) (by rw [c1]; decide) (by rw [c1]; rfl) (by decide) ?_
    refine lv_aload_n C.1 C.2.1 (dk_at dkX5_rule 2 rfl) rfl (lv_at hl 0 rfl) ?_
    refine r_get (v := .ref (a_nw 0)) C hK hP (fun w h => List.mem_cons_of_mem _ (inlX5 w h)) 0 rfl rfl 1 (by decide) (List.mem_cons_of_mem _ (inr1 _ (List.mem_of_getElem? (i := 19) rfl))) rfl (dk_at dkX5_rule 3 rfl) ?_
    refine r_get (v := .int (cSa nw)) C hK hP (fun w h => List.mem_cons_of_mem _ (inlX0 w h)) 5 rfl rfl 3 (by decide) (List.mem_cons_of_mem _ (inr16 _ (List.mem_of_getElem? (i := 15) rfl))) rfl (dk_at dkX5_rule 4 rfl) ?_
    cases hf
    exact fin _ _ _ (dk_at dkX5_rule 5 rfl) rfl
  have hf := (if_neg c1).symm.trans hf
  by_cases c2 : p1 = 1
  · have hf := (if_pos c2).symm.trans hf
    refine lv_tableIn (tgt := 40) C.1 C.2.1 (dk_at dkX5_rule 1 rfl) (by rw [c2]; decide) (by rw [c2]; decide) (by rw [c2]; rfl) (by decide) ?_
    refine lv_aload_n C.1 C.2.1 (dk_at dkX5_rule 6 rfl) rfl (lv_at hl 0 rfl) ?_
    refine r_get (v := .ref (a_nw 0)) C hK hP (fun w h => List.mem_cons_of_mem _ (inlX5 w h)) 0 rfl rfl 1 (by decide) (List.mem_cons_of_mem _ (inr1 _ (List.mem_of_getElem? (i := 19) rfl))) rfl (dk_at dkX5_rule 7 rfl) ?_
    refine r_get (v := .int (cHe nw)) C hK hP (fun w h => List.mem_cons_of_mem _ (inlX0 w h)) 5 rfl rfl 5 (by decide) (List.mem_cons_of_mem _ (inr16 _ (List.mem_of_getElem? (i := 16) rfl))) rfl (dk_at dkX5_rule 8 rfl) ?_
    cases hf
    exact fin _ _ _ (dk_at dkX5_rule 9 rfl) rfl
  have hf := (if_neg c2).symm.trans hf
  by_cases c3 : p1 = 2
  · have hf := (if_pos c3).symm.trans hf
    refine lv_tableIn (tgt := 48) C.1 C.2.1 (dk_at dkX5_rule 1 rfl) (by rw [c3]; decide) (by rw [c3]; decide) (by rw [c3]; rfl) (by decide) ?_
    refine lv_aload_n C.1 C.2.1 (dk_at dkX5_rule 10 rfl) rfl (lv_at hl 0 rfl) ?_
    refine r_get (v := .ref (a_nw 0)) C hK hP (fun w h => List.mem_cons_of_mem _ (inlX5 w h)) 0 rfl rfl 1 (by decide) (List.mem_cons_of_mem _ (inr1 _ (List.mem_of_getElem? (i := 19) rfl))) rfl (dk_at dkX5_rule 11 rfl) ?_
    refine r_get (v := .long (cW nw)) C hK hP (fun w h => List.mem_cons_of_mem _ (inlX0 w h)) 5 rfl rfl 0 (by decide) (List.mem_cons_of_mem _ (inr16 _ (List.mem_of_getElem? (i := 17) rfl))) rfl (dk_at dkX5_rule 12 rfl) ?_
    obtain ⟨r4, hq5, hf⟩ := bd1_at hf
    refine r_st (As := [.long (cW nw)]) (rest := []) C (kJ13_bitCount_95d88 l (cW nw) r4 hq5) (cwS0 C (inr16 _ (List.mem_of_getElem? (i := 18) rfl)) mwJ13_bitCount_95d88 hdJ13_bitCount_95d88 ⟨Nat.le_of_ble_eq_true rfl, Nat.le_of_ble_eq_true rfl⟩) rfl hl.1 rfl (Nat.le_of_ble_eq_true rfl) ⟨Nat.zero_le _, Nat.zero_le _⟩ (dk_at dkX5_rule 13 rfl) ?_
    cases hf
    exact fin _ _ _ (dk_at dkX5_rule 14 rfl) rfl
  have hf := (if_neg c3).symm.trans hf
  by_cases c6 : p1 = 3
  · have hf := (if_pos c6).symm.trans hf
    refine lv_tableIn (tgt := 59) C.1 C.2.1 (dk_at dkX5_rule 1 rfl) (by rw [c6]; decide) (by rw [c6]; decide) (by rw [c6]; rfl) (by decide) ?_
    refine lv_aload_n C.1 C.2.1 (dk_at dkX5_rule 15 rfl) rfl (lv_at hl 0 rfl) ?_
    refine r_get (v := .ref (a_nw 0)) C hK hP (fun w h => List.mem_cons_of_mem _ (inlX5 w h)) 0 rfl rfl 1 (by decide) (List.mem_cons_of_mem _ (inr1 _ (List.mem_of_getElem? (i := 19) rfl))) rfl (dk_at dkX5_rule 16 rfl) ?_
    obtain ⟨r7, hq8, hf⟩ := bd1_at hf
    refine r_roV (As := []) (rest := []) C (kX0_windyHours l g a_nw nw r7 hq8) (cwV0 C (inr16 _ (List.mem_of_getElem? (i := 19) rfl)) mwX0_windyHours hdX0_windyHours ⟨Nat.le_of_ble_eq_true rfl, Nat.le_of_ble_eq_true rfl⟩) hK (hP.sub [5, 6, 7, 8, 9, 10, 11, 12, 13, 14, 15] rfl) rfl rfl rfl hl.1 rfl (Nat.le_of_ble_eq_true rfl) ⟨Nat.zero_le _, Nat.zero_le _⟩ (dk_at dkX5_rule 17 rfl) ?_
    cases hf
    exact fin _ _ _ (dk_at dkX5_rule 18 rfl) rfl
  have hf := (if_neg c6).symm.trans hf
  have c1n : p1.toInt ≠ 0 := fun q => c1 (by rw [← Int32.ofInt_toInt p1, q]; rfl)
  have c2n : p1.toInt ≠ 1 := fun q => c2 (by rw [← Int32.ofInt_toInt p1, q]; rfl)
  have c3n : p1.toInt ≠ 2 := fun q => c3 (by rw [← Int32.ofInt_toInt p1, q]; rfl)
  have c6n : p1.toInt ≠ 3 := fun q => c6 (by rw [← Int32.ofInt_toInt p1, q]; rfl)
  refine lv_tableOut (tgt := 67) C.1 C.2.1 (dk_at dkX5_rule 1 rfl) (by omega) (by decide) ?_
  refine lv_iconst (v := (-1)) C.1 C.2.1 (dk_at dkX5_rule 19 rfl) (by decide) ?_
  cases hf
  exact fin _ _ _ (dk_at dkX5_rule 20 rfl) rfl
-- X5.saying
abbrev tbX5_saying : List (Nat × Instr × Nat) := [(0, .aload_n 0, 1), (1, .getfield 19, 3), (4, .iload_n 1, 1), (5, .invokevirtual 96, 3), (8, .ifCond .eq 12, 3), (11, .iload_n 2, 1), (12, .ifCond .lt 8, 3), (15, .iload_n 2, 1), (16, .iconst 5, 1), (17, .if_icmp .le 5, 3), (20, .iconst (-1), 1), (21, .ireturn, 1), (22, .iload_n 2, 1), (23, .iconst 5, 1), (24, .if_icmp .ne 29, 3), (27, .aload_n 0, 1), (28, .getfield 19, 3), (31, .getfield 100, 3), (34, .iload_n 1, 1), (35, .aaload, 1), (36, .iconst 0, 1), (37, .iaload, 1), (38, .aload_n 0, 1), (39, .getfield 19, 3), (42, .getfield 100, 3), (45, .iload_n 1, 1), (46, .aaload, 1), (47, .iconst 3, 1), (48, .iaload, 1), (49, .invokestatic 104, 3), (52, .ireturn, 1), (53, .aload_n 0, 1), (54, .getfield 19, 3), (57, .getfield 100, 3), (60, .iload_n 1, 1), (61, .aaload, 1), (62, .iload_n 2, 1), (63, .iaload, 1), (64, .ireturn, 1)]
theorem dkX5_saying : dk cX5_saying tbX5_saying := dk_of (by decide +kernel)
abbrev cdX5_saying : Cond := Cond.code yX5_saying cX5_saying 3 (some .int)
abbrev rmX5_saying : Room := { frames := 1, cells := 0, slots := 0, locals := 22 }
theorem mwX5_saying : Cond.instanceMethod yX5_saying ∈ wsL_law ∧ Cond.selects RX5 yX5_saying yX5_saying ∈ wsL_law ∧ Cond.initialized RX5 ∈ wsL_law ∧ cdX5_saying ∈ wsL_law := ⟨inr17 _ (List.mem_of_getElem? (i := 18) rfl), inr17 _ (List.mem_of_getElem? (i := 19) rfl), inr1 _ (List.mem_of_getElem? (i := 2) rfl), inr17 _ (List.mem_of_getElem? (i := 20) rfl)⟩
theorem hdX5_saying : yX5_saying.cls = RX5 ∧ yX5_saying.cls ≠ "java/lang/invoke/MethodHandle" ∧ yX5_saying.cls ≠ "java/lang/invoke/VarHandle" ∧ (parseMethodDescriptor yX5_saying.desc).map (fun d => d.parameters.length) = some 2 := by decide +kernel
set_option maxHeartbeats 4000000 in
set_option maxRecDepth 100000 in
theorem kX5_saying (l : Launch) (g : Gx) (a_v a_rd a_nw a_tr a_da a_i0 a_i1 a_s0 a_s1 a_s2 a_s3 : Nat → Nat) (v : VT) (nw : CT) (p1 : Int32) (p2 : Int32) (res : Int32) (hf : fX5_saying p1 p2 v nw = some res) : Met l yX5_saying (cdX5_saying :: wsL_law) rmX5_saying (va_Pc [.ref (a_v 0), .int p1, .int p2] (RO g (wV g a_v a_rd a_nw a_tr a_da a_i0 a_i1 a_s0 a_s1 a_s2 a_s3 v ++ wC g a_nw nw))) (vp_Si (fun x => x = res)) 0 0 (fun _ => False) := by
  refine Met_roi (cc := cX5_saying) (maxL := 3) (by decide) rfl (Nat.le_of_ble_eq_true rfl) ?_
  intro P E Z Mi AR BE ME CO Q C fin hK hP ls hl
  have hl : lv_has ls 3 [(0, .ref (a_v 0)), (1, .int p1), (2, .int p2)] := hl
  unfold fX5_saying at hf
  refine lv_aload_n C.1 C.2.1 (dk_at dkX5_saying 0 rfl) rfl (lv_at hl 0 rfl) ?_
  refine r_get (v := .ref (a_nw 0)) C hK hP (fun w h => List.mem_cons_of_mem _ (inlX5 w h)) 0 rfl rfl 1 (by decide) (List.mem_cons_of_mem _ (inr1 _ (List.mem_of_getElem? (i := 19) rfl))) rfl (dk_at dkX5_saying 1 rfl) ?_
  refine lv_iload_n C.1 C.2.1 (dk_at dkX5_saying 2 rfl) rfl (lv_at hl 1 rfl) ?_
  obtain ⟨r1, hq2, hf⟩ := bd1_at hf
  refine r_roV (As := [.int p1]) (rest := []) C (kX0_isSaying l g a_nw nw p1 r1 hq2) (cwV0 C (inr17 _ (List.mem_of_getElem? (i := 22) rfl)) mwX0_isSaying hdX0_isSaying ⟨Nat.le_of_ble_eq_true rfl, Nat.le_of_ble_eq_true rfl⟩) hK (hP.sub [5, 6, 7, 8, 9, 10, 11, 12, 13, 14, 15] rfl) rfl rfl rfl hl.1 rfl (Nat.le_of_ble_eq_true rfl) ⟨Nat.zero_le _, Nat.zero_le _⟩ (dk_at dkX5_saying 3 rfl) ?_
  refine lv_if_eq (tgt := 20) C.1 C.2.1 (dk_at dkX5_saying 4 rfl) (by decide) (fun c3 => ?_) (fun c3 => ?_)
  · have hf := (if_pos c3).symm.trans hf
    refine lv_iconst (v := (-1)) C.1 C.2.1 (dk_at dkX5_saying 10 rfl) (by decide) ?_
    cases hf
    exact fin _ _ _ (dk_at dkX5_saying 11 rfl) rfl
  · have hf := (if_neg c3).symm.trans hf
    refine lv_iload_n C.1 C.2.1 (dk_at dkX5_saying 5 rfl) rfl (lv_at hl 2 rfl) ?_
    refine lv_if_lt (tgt := 20) C.1 C.2.1 (dk_at dkX5_saying 6 rfl) (by decide) (fun c4 => ?_) (fun c4 => ?_)
    · have hf := (if_pos c4).symm.trans hf
      refine lv_iconst (v := (-1)) C.1 C.2.1 (dk_at dkX5_saying 10 rfl) (by decide) ?_
      cases hf
      exact fin _ _ _ (dk_at dkX5_saying 11 rfl) rfl
    · have hf := (if_neg c4).symm.trans hf
      refine lv_iload_n C.1 C.2.1 (dk_at dkX5_saying 7 rfl) rfl (lv_at hl 2 rfl) ?_
      refine lv_iconst (v := 5) C.1 C.2.1 (dk_at dkX5_saying 8 rfl) (by decide) ?_
      refine lv_icmp_le (tgt := 22) C.1 C.2.1 (dk_at dkX5_saying 9 rfl) (by decide) (fun c5 => ?_) (fun c5 => ?_)
      · have hf := (if_pos c5).symm.trans hf
        refine lv_iload_n C.1 C.2.1 (dk_at dkX5_saying 12 rfl) rfl (lv_at hl 2 rfl) ?_
        refine lv_iconst (v := 5) C.1 C.2.1 (dk_at dkX5_saying 13 rfl) (by decide) ?_
        refine lv_icmp_ne (tgt := 53) C.1 C.2.1 (dk_at dkX5_saying 14 rfl) (by decide) (fun c6 => ?_) (fun c6 => ?_)
        · have hf := (if_neg c6).symm.trans hf
          refine lv_aload_n C.1 C.2.1 (dk_at dkX5_saying 31 rfl) rfl (lv_at hl 0 rfl) ?_
          refine r_get (v := .ref (a_nw 0)) C hK hP (fun w h => List.mem_cons_of_mem _ (inlX5 w h)) 0 rfl rfl 1 (by decide) (List.mem_cons_of_mem _ (inr1 _ (List.mem_of_getElem? (i := 19) rfl))) rfl (dk_at dkX5_saying 32 rfl) ?_
          refine r_get (v := .ref (a_nw 2)) C hK hP (fun w h => List.mem_cons_of_mem _ (inlX0 w h)) 5 rfl rfl 2 (by decide) (List.mem_cons_of_mem _ (inr17 _ (List.mem_of_getElem? (i := 21) rfl))) rfl (dk_at dkX5_saying 33 rfl) ?_
          refine lv_iload_n C.1 C.2.1 (dk_at dkX5_saying 34 rfl) rfl (lv_at hl 1 rfl) ?_
          obtain ⟨h7, hf⟩ := gd_at hf
          refine r_aldr (b := a_nw (3 + p1.toNatClampNeg)) C hK hP 7 rfl h7 rfl (dk_at dkX5_saying 35 rfl) ?_
          have h8 := in_lt h7
          refine lv_iload_n C.1 C.2.1 (dk_at dkX5_saying 36 rfl) rfl (lv_at hl 2 rfl) ?_
          obtain ⟨h9, hf⟩ := gd_at hf
          refine r_iald (k := p2.toNatClampNeg) (a := a_nw (3 + p1.toNatClampNeg)) (n := 5) (f := cTo nw p1.toNatClampNeg) C hK hP (5 + (3 + p1.toNatClampNeg)) (by rcases lt5 h8 with h5 | h5 | h5 | h5 | h5 <;> rw [h5] <;> rfl) h9 rfl (dk_at dkX5_saying 37 rfl) ?_
          refine lv_topi (fun x10 ex10 => ?_)
          have hf := nm_at ex10 hf
          cases hf
          exact fin _ _ _ (dk_at dkX5_saying 38 rfl) rfl
        · have hf := (if_pos c6).symm.trans hf
          refine lv_aload_n C.1 C.2.1 (dk_at dkX5_saying 15 rfl) rfl (lv_at hl 0 rfl) ?_
          refine r_get (v := .ref (a_nw 0)) C hK hP (fun w h => List.mem_cons_of_mem _ (inlX5 w h)) 0 rfl rfl 1 (by decide) (List.mem_cons_of_mem _ (inr1 _ (List.mem_of_getElem? (i := 19) rfl))) rfl (dk_at dkX5_saying 16 rfl) ?_
          refine r_get (v := .ref (a_nw 2)) C hK hP (fun w h => List.mem_cons_of_mem _ (inlX0 w h)) 5 rfl rfl 2 (by decide) (List.mem_cons_of_mem _ (inr17 _ (List.mem_of_getElem? (i := 21) rfl))) rfl (dk_at dkX5_saying 17 rfl) ?_
          refine lv_iload_n C.1 C.2.1 (dk_at dkX5_saying 18 rfl) rfl (lv_at hl 1 rfl) ?_
          obtain ⟨h11, hf⟩ := gd_at hf
          refine r_aldr (b := a_nw (3 + p1.toNatClampNeg)) C hK hP 7 rfl h11 rfl (dk_at dkX5_saying 19 rfl) ?_
          have h12 := in_lt h11
          refine lv_iconst (v := 0) C.1 C.2.1 (dk_at dkX5_saying 20 rfl) (by decide) ?_
          refine r_iald (k := 0) (a := a_nw (3 + p1.toNatClampNeg)) (n := 5) (f := cTo nw p1.toNatClampNeg) C hK hP (5 + (3 + p1.toNatClampNeg)) (by rcases lt5 h12 with h5 | h5 | h5 | h5 | h5 <;> rw [h5] <;> rfl) (in_c (by decide)) (by decide) (dk_at dkX5_saying 21 rfl) ?_
          refine lv_topi (fun x13 ex13 => ?_)
          have hf := nm_at ex13 hf
          refine lv_aload_n C.1 C.2.1 (dk_at dkX5_saying 22 rfl) rfl (lv_at hl 0 rfl) ?_
          refine r_get (v := .ref (a_nw 0)) C hK hP (fun w h => List.mem_cons_of_mem _ (inlX5 w h)) 0 rfl rfl 1 (by decide) (List.mem_cons_of_mem _ (inr1 _ (List.mem_of_getElem? (i := 19) rfl))) rfl (dk_at dkX5_saying 23 rfl) ?_
          refine r_get (v := .ref (a_nw 2)) C hK hP (fun w h => List.mem_cons_of_mem _ (inlX0 w h)) 5 rfl rfl 2 (by decide) (List.mem_cons_of_mem _ (inr17 _ (List.mem_of_getElem? (i := 21) rfl))) rfl (dk_at dkX5_saying 24 rfl) ?_
          refine lv_iload_n C.1 C.2.1 (dk_at dkX5_saying 25 rfl) rfl (lv_at hl 1 rfl) ?_
          obtain ⟨h14, hf⟩ := gd_at hf
          refine r_aldr (b := a_nw (3 + p1.toNatClampNeg)) C hK hP 7 rfl h14 rfl (dk_at dkX5_saying 26 rfl) ?_
          have h15 := in_lt h14
          refine lv_iconst (v := 3) C.1 C.2.1 (dk_at dkX5_saying 27 rfl) (by decide) ?_
          refine r_iald (k := 3) (a := a_nw (3 + p1.toNatClampNeg)) (n := 5) (f := cTo nw p1.toNatClampNeg) C hK hP (5 + (3 + p1.toNatClampNeg)) (by rcases lt5 h15 with h5 | h5 | h5 | h5 | h5 <;> rw [h5] <;> rfl) (in_c (by decide)) (by decide) (dk_at dkX5_saying 28 rfl) ?_
          refine lv_topi (fun x16 ex16 => ?_)
          have hf := nm_at ex16 hf
          obtain ⟨r17, hq18, hf⟩ := bd1_at hf
          refine r_st (As := [.int x13, .int x16]) (rest := []) C (kX3_reachBy l x13 x16 r17 hq18) (cwS0 C (inr18 _ (List.mem_of_getElem? (i := 2) rfl)) mwX3_reachBy hdX3_reachBy ⟨Nat.le_of_ble_eq_true rfl, Nat.le_of_ble_eq_true rfl⟩) rfl hl.1 rfl (Nat.le_of_ble_eq_true rfl) ⟨Nat.zero_le _, Nat.zero_le _⟩ (dk_at dkX5_saying 29 rfl) ?_
          cases hf
          exact fin _ _ _ (dk_at dkX5_saying 30 rfl) rfl
      · have hf := (if_neg c5).symm.trans hf
        refine lv_iconst (v := (-1)) C.1 C.2.1 (dk_at dkX5_saying 10 rfl) (by decide) ?_
        cases hf
        exact fin _ _ _ (dk_at dkX5_saying 11 rfl) rfl
-- X5.hearer
abbrev tbX5_hearer : List (Nat × Instr × Nat) := [(0, .aload_n 0, 1), (1, .getfield 19, 3), (4, .iload_n 1, 1), (5, .invokevirtual 110, 3), (8, .ifCond .eq 15, 3), (11, .aload_n 0, 1), (12, .getfield 19, 3), (15, .getfield 113, 3), (18, .iload_n 1, 1), (19, .iaload, 1), (20, .goto 4, 3), (23, .iconst (-1), 1), (24, .ireturn, 1)]
theorem dkX5_hearer : dk cX5_hearer tbX5_hearer := dk_of (by decide +kernel)
abbrev cdX5_hearer : Cond := Cond.code yX5_hearer cX5_hearer 2 (some .int)
abbrev rmX5_hearer : Room := { frames := 1, cells := 0, slots := 0, locals := 21 }
theorem mwX5_hearer : Cond.instanceMethod yX5_hearer ∈ wsL_law ∧ Cond.selects RX5 yX5_hearer yX5_hearer ∈ wsL_law ∧ Cond.initialized RX5 ∈ wsL_law ∧ cdX5_hearer ∈ wsL_law := ⟨inr18 _ (List.mem_of_getElem? (i := 23) rfl), inr19 _ (List.mem_of_getElem? (i := 0) rfl), inr1 _ (List.mem_of_getElem? (i := 2) rfl), inr19 _ (List.mem_of_getElem? (i := 1) rfl)⟩
theorem hdX5_hearer : yX5_hearer.cls = RX5 ∧ yX5_hearer.cls ≠ "java/lang/invoke/MethodHandle" ∧ yX5_hearer.cls ≠ "java/lang/invoke/VarHandle" ∧ (parseMethodDescriptor yX5_hearer.desc).map (fun d => d.parameters.length) = some 1 := by decide +kernel
set_option maxHeartbeats 4000000 in
set_option maxRecDepth 100000 in
theorem kX5_hearer (l : Launch) (g : Gx) (a_v a_rd a_nw a_tr a_da a_i0 a_i1 a_s0 a_s1 a_s2 a_s3 : Nat → Nat) (v : VT) (nw : CT) (p1 : Int32) (res : Int32) (hf : fX5_hearer p1 v nw = some res) : Met l yX5_hearer (cdX5_hearer :: wsL_law) rmX5_hearer (va_Pc [.ref (a_v 0), .int p1] (RO g (wV g a_v a_rd a_nw a_tr a_da a_i0 a_i1 a_s0 a_s1 a_s2 a_s3 v ++ wC g a_nw nw))) (vp_Si (fun x => x = res)) 0 0 (fun _ => False) := by
  refine Met_roi (cc := cX5_hearer) (maxL := 2) (by decide) rfl (Nat.le_of_ble_eq_true rfl) ?_
  intro P E Z Mi AR BE ME CO Q C fin hK hP ls hl
  have hl : lv_has ls 2 [(0, .ref (a_v 0)), (1, .int p1)] := hl
  unfold fX5_hearer at hf
  refine lv_aload_n C.1 C.2.1 (dk_at dkX5_hearer 0 rfl) rfl (lv_at hl 0 rfl) ?_
  refine r_get (v := .ref (a_nw 0)) C hK hP (fun w h => List.mem_cons_of_mem _ (inlX5 w h)) 0 rfl rfl 1 (by decide) (List.mem_cons_of_mem _ (inr1 _ (List.mem_of_getElem? (i := 19) rfl))) rfl (dk_at dkX5_hearer 1 rfl) ?_
  refine lv_iload_n C.1 C.2.1 (dk_at dkX5_hearer 2 rfl) rfl (lv_at hl 1 rfl) ?_
  obtain ⟨r1, hq2, hf⟩ := bd1_at hf
  refine r_roV (As := [.int p1]) (rest := []) C (kX0_isHearer l g a_nw nw p1 r1 hq2) (cwV0 C (inr19 _ (List.mem_of_getElem? (i := 3) rfl)) mwX0_isHearer hdX0_isHearer ⟨Nat.le_of_ble_eq_true rfl, Nat.le_of_ble_eq_true rfl⟩) hK (hP.sub [5, 6, 7, 8, 9, 10, 11, 12, 13, 14, 15] rfl) rfl rfl rfl hl.1 rfl (Nat.le_of_ble_eq_true rfl) ⟨Nat.zero_le _, Nat.zero_le _⟩ (dk_at dkX5_hearer 3 rfl) ?_
  refine lv_if_eq (tgt := 23) C.1 C.2.1 (dk_at dkX5_hearer 4 rfl) (by decide) (fun c3 => ?_) (fun c3 => ?_)
  · have hf := (if_pos c3).symm.trans hf
    refine lv_iconst (v := (-1)) C.1 C.2.1 (dk_at dkX5_hearer 11 rfl) (by decide) ?_
    cases hf
    exact fin _ _ _ (dk_at dkX5_hearer 12 rfl) rfl
  · have hf := (if_neg c3).symm.trans hf
    refine lv_aload_n C.1 C.2.1 (dk_at dkX5_hearer 5 rfl) rfl (lv_at hl 0 rfl) ?_
    refine r_get (v := .ref (a_nw 0)) C hK hP (fun w h => List.mem_cons_of_mem _ (inlX5 w h)) 0 rfl rfl 1 (by decide) (List.mem_cons_of_mem _ (inr1 _ (List.mem_of_getElem? (i := 19) rfl))) rfl (dk_at dkX5_hearer 6 rfl) ?_
    refine r_get (v := .ref (a_nw 8)) C hK hP (fun w h => List.mem_cons_of_mem _ (inlX0 w h)) 5 rfl rfl 4 (by decide) (List.mem_cons_of_mem _ (inr19 _ (List.mem_of_getElem? (i := 2) rfl))) rfl (dk_at dkX5_hearer 7 rfl) ?_
    refine lv_iload_n C.1 C.2.1 (dk_at dkX5_hearer 8 rfl) rfl (lv_at hl 1 rfl) ?_
    obtain ⟨h4, hf⟩ := gd_at hf
    refine r_iald (k := p1.toNatClampNeg) (f := (cAt nw)) C hK hP 13 rfl h4 rfl (dk_at dkX5_hearer 9 rfl) ?_
    refine lv_topi (fun x5 ex5 => ?_)
    have hf := nm_at ex5 hf
    refine lv_goto (tgt := 24) C.1 C.2.1 (dk_at dkX5_hearer 10 rfl) (by decide) ?_
    cases hf
    exact fin _ _ _ (dk_at dkX5_hearer 12 rfl) rfl
-- X5.wall
abbrev tbX5_wall : List (Nat × Instr × Nat) := [(0, .iload_n 1, 1), (1, .invokestatic 116, 3), (4, .ifCond .ne 5, 3), (7, .iconst (-1), 1), (8, .ireturn, 1), (9, .aload_n 0, 1), (10, .getfield 19, 3), (13, .getfield 83, 3), (16, .iload_n 1, 1), (17, .invokestatic 119, 3), (20, .invokestatic 123, 3), (23, .ifCond .eq 7, 3), (26, .iconst 1, 1), (27, .goto 4, 3), (30, .iconst 0, 1), (31, .ireturn, 1)]
theorem dkX5_wall : dk cX5_wall tbX5_wall := dk_of (by decide +kernel)
abbrev cdX5_wall : Cond := Cond.code yX5_wall cX5_wall 2 (some .int)
abbrev rmX5_wall : Room := { frames := 1, cells := 0, slots := 0, locals := 22 }
theorem mwX5_wall : Cond.instanceMethod yX5_wall ∈ wsL_law ∧ Cond.selects RX5 yX5_wall yX5_wall ∈ wsL_law ∧ Cond.initialized RX5 ∈ wsL_law ∧ cdX5_wall ∈ wsL_law := ⟨inr19 _ (List.mem_of_getElem? (i := 16) rfl), inr19 _ (List.mem_of_getElem? (i := 17) rfl), inr1 _ (List.mem_of_getElem? (i := 2) rfl), inr19 _ (List.mem_of_getElem? (i := 18) rfl)⟩
theorem hdX5_wall : yX5_wall.cls = RX5 ∧ yX5_wall.cls ≠ "java/lang/invoke/MethodHandle" ∧ yX5_wall.cls ≠ "java/lang/invoke/VarHandle" ∧ (parseMethodDescriptor yX5_wall.desc).map (fun d => d.parameters.length) = some 1 := by decide +kernel
set_option maxHeartbeats 4000000 in
set_option maxRecDepth 100000 in
theorem kX5_wall (l : Launch) (g : Gx) (a_v a_rd a_nw a_tr a_da a_i0 a_i1 a_s0 a_s1 a_s2 a_s3 : Nat → Nat) (v : VT) (nw : CT) (p1 : Int32) (res : Int32) (hf : fX5_wall p1 v nw = some res) : Met l yX5_wall (cdX5_wall :: wsL_law) rmX5_wall (va_Pc [.ref (a_v 0), .int p1] (RO g (wV g a_v a_rd a_nw a_tr a_da a_i0 a_i1 a_s0 a_s1 a_s2 a_s3 v ++ wC g a_nw nw))) (vp_Si (fun x => x = res)) 0 0 (fun _ => False) := by
  refine Met_roi (cc := cX5_wall) (maxL := 2) (by decide) rfl (Nat.le_of_ble_eq_true rfl) ?_
  intro P E Z Mi AR BE ME CO Q C fin hK hP ls hl
  have hl : lv_has ls 2 [(0, .ref (a_v 0)), (1, .int p1)] := hl
  unfold fX5_wall at hf
  refine lv_iload_n C.1 C.2.1 (dk_at dkX5_wall 0 rfl) rfl (lv_at hl 1 rfl) ?_
  obtain ⟨r1, hq2, hf⟩ := bd1_at hf
  refine r_st (As := [.int p1]) (rest := []) C (kX3_isCell l p1 r1 hq2) (cwS0 C (inr19 _ (List.mem_of_getElem? (i := 19) rfl)) mwX3_isCell hdX3_isCell ⟨Nat.le_of_ble_eq_true rfl, Nat.le_of_ble_eq_true rfl⟩) rfl hl.1 rfl (Nat.le_of_ble_eq_true rfl) ⟨Nat.zero_le _, Nat.zero_le _⟩ (dk_at dkX5_wall 1 rfl) ?_
  refine lv_if_ne (tgt := 9) C.1 C.2.1 (dk_at dkX5_wall 2 rfl) (by decide) (fun c3 => ?_) (fun c3 => ?_)
  · have hf := (if_neg c3).symm.trans hf
    refine lv_aload_n C.1 C.2.1 (dk_at dkX5_wall 5 rfl) rfl (lv_at hl 0 rfl) ?_
    refine r_get (v := .ref (a_nw 0)) C hK hP (fun w h => List.mem_cons_of_mem _ (inlX5 w h)) 0 rfl rfl 1 (by decide) (List.mem_cons_of_mem _ (inr1 _ (List.mem_of_getElem? (i := 19) rfl))) rfl (dk_at dkX5_wall 6 rfl) ?_
    refine r_get (v := .long (cW nw)) C hK hP (fun w h => List.mem_cons_of_mem _ (inlX0 w h)) 5 rfl rfl 0 (by decide) (List.mem_cons_of_mem _ (inr16 _ (List.mem_of_getElem? (i := 17) rfl))) rfl (dk_at dkX5_wall 7 rfl) ?_
    refine lv_iload_n C.1 C.2.1 (dk_at dkX5_wall 8 rfl) rfl (lv_at hl 1 rfl) ?_
    obtain ⟨r4, hq5, hf⟩ := bd1_at hf
    refine r_st (As := [.int p1]) (rest := [.long (cW nw)]) C (kX3_placeOf l p1 r4 hq5) (cwS0 C (inr19 _ (List.mem_of_getElem? (i := 20) rfl)) mwX3_placeOf hdX3_placeOf ⟨Nat.le_of_ble_eq_true rfl, Nat.le_of_ble_eq_true rfl⟩) rfl hl.1 rfl (Nat.le_of_ble_eq_true rfl) ⟨Nat.zero_le _, Nat.zero_le _⟩ (dk_at dkX5_wall 9 rfl) ?_
    obtain ⟨r6, hq7, hf⟩ := bd1_at hf
    refine r_st (As := [.long (cW nw), .int r4]) (rest := []) C (kX3_has l (cW nw) r4 r6 hq7) (cwS0 C (inr19 _ (List.mem_of_getElem? (i := 21) rfl)) mwX3_has hdX3_has ⟨Nat.le_of_ble_eq_true rfl, Nat.le_of_ble_eq_true rfl⟩) rfl hl.1 rfl (Nat.le_of_ble_eq_true rfl) ⟨Nat.zero_le _, Nat.zero_le _⟩ (dk_at dkX5_wall 10 rfl) ?_
    refine lv_if_eq (tgt := 30) C.1 C.2.1 (dk_at dkX5_wall 11 rfl) (by decide) (fun c8 => ?_) (fun c8 => ?_)
    · have hf := (if_pos c8).symm.trans hf
      refine lv_iconst (v := 0) C.1 C.2.1 (dk_at dkX5_wall 14 rfl) (by decide) ?_
      cases hf
      exact fin _ _ _ (dk_at dkX5_wall 15 rfl) rfl
    · have hf := (if_neg c8).symm.trans hf
      refine lv_iconst (v := 1) C.1 C.2.1 (dk_at dkX5_wall 12 rfl) (by decide) ?_
      refine lv_goto (tgt := 31) C.1 C.2.1 (dk_at dkX5_wall 13 rfl) (by decide) ?_
      cases hf
      exact fin _ _ _ (dk_at dkX5_wall 15 rfl) rfl
  · have hf := (if_pos c3).symm.trans hf
    refine lv_iconst (v := (-1)) C.1 C.2.1 (dk_at dkX5_wall 3 rfl) (by decide) ?_
    cases hf
    exact fin _ _ _ (dk_at dkX5_wall 4 rfl) rfl
-- X5.wind
abbrev tbX5_wind : List (Nat × Instr × Nat) := [(0, .iconst 4, 1), (1, .iload_n 1, 1), (2, .invokestatic 127, 3), (5, .ifCond .eq 15, 3), (8, .aload_n 0, 1), (9, .getfield 19, 3), (12, .getfield 131, 3), (15, .iload_n 1, 1), (16, .iaload, 1), (17, .goto 4, 3), (20, .iconst (-1), 1), (21, .ireturn, 1)]
theorem dkX5_wind : dk cX5_wind tbX5_wind := dk_of (by decide +kernel)
abbrev cdX5_wind : Cond := Cond.code yX5_wind cX5_wind 2 (some .int)
abbrev rmX5_wind : Room := { frames := 2, cells := 0, slots := 0, locals := 41 }
theorem mwX5_wind : Cond.instanceMethod yX5_wind ∈ wsL_law ∧ Cond.selects RX5 yX5_wind yX5_wind ∈ wsL_law ∧ Cond.initialized RX5 ∈ wsL_law ∧ cdX5_wind ∈ wsL_law := ⟨inr20 _ (List.mem_of_getElem? (i := 7) rfl), inr20 _ (List.mem_of_getElem? (i := 8) rfl), inr1 _ (List.mem_of_getElem? (i := 2) rfl), inr20 _ (List.mem_of_getElem? (i := 9) rfl)⟩
theorem hdX5_wind : yX5_wind.cls = RX5 ∧ yX5_wind.cls ≠ "java/lang/invoke/MethodHandle" ∧ yX5_wind.cls ≠ "java/lang/invoke/VarHandle" ∧ (parseMethodDescriptor yX5_wind.desc).map (fun d => d.parameters.length) = some 1 := by decide +kernel
set_option maxHeartbeats 4000000 in
set_option maxRecDepth 100000 in
theorem kX5_wind (l : Launch) (g : Gx) (a_v a_rd a_nw a_tr a_da a_i0 a_i1 a_s0 a_s1 a_s2 a_s3 : Nat → Nat) (v : VT) (nw : CT) (p1 : Int32) (res : Int32) (hf : fX5_wind p1 v nw = some res) : Met l yX5_wind (cdX5_wind :: wsL_law) rmX5_wind (va_Pc [.ref (a_v 0), .int p1] (RO g (wV g a_v a_rd a_nw a_tr a_da a_i0 a_i1 a_s0 a_s1 a_s2 a_s3 v ++ wC g a_nw nw))) (vp_Si (fun x => x = res)) 0 0 (fun _ => False) := by
  refine Met_roi (cc := cX5_wind) (maxL := 2) (by decide) rfl (Nat.le_of_ble_eq_true rfl) ?_
  intro P E Z Mi AR BE ME CO Q C fin hK hP ls hl
  have hl : lv_has ls 2 [(0, .ref (a_v 0)), (1, .int p1)] := hl
  unfold fX5_wind at hf
  refine lv_iconst (v := 4) C.1 C.2.1 (dk_at dkX5_wind 0 rfl) (by decide) ?_
  refine lv_iload_n C.1 C.2.1 (dk_at dkX5_wind 1 rfl) rfl (lv_at hl 1 rfl) ?_
  obtain ⟨r1, hq2, hf⟩ := bd1_at hf
  refine r_st (As := [.int 4, .int p1]) (rest := []) C (kX3_fits l 4 p1 r1 hq2) (cwS0 C (inr20 _ (List.mem_of_getElem? (i := 11) rfl)) mwX3_fits hdX3_fits ⟨Nat.le_of_ble_eq_true rfl, Nat.le_of_ble_eq_true rfl⟩) rfl hl.1 rfl (Nat.le_of_ble_eq_true rfl) ⟨Nat.zero_le _, Nat.zero_le _⟩ (dk_at dkX5_wind 2 rfl) ?_
  refine lv_if_eq (tgt := 20) C.1 C.2.1 (dk_at dkX5_wind 3 rfl) (by decide) (fun c3 => ?_) (fun c3 => ?_)
  · have hf := (if_pos c3).symm.trans hf
    refine lv_iconst (v := (-1)) C.1 C.2.1 (dk_at dkX5_wind 10 rfl) (by decide) ?_
    cases hf
    exact fin _ _ _ (dk_at dkX5_wind 11 rfl) rfl
  · have hf := (if_neg c3).symm.trans hf
    refine lv_aload_n C.1 C.2.1 (dk_at dkX5_wind 4 rfl) rfl (lv_at hl 0 rfl) ?_
    refine r_get (v := .ref (a_nw 0)) C hK hP (fun w h => List.mem_cons_of_mem _ (inlX5 w h)) 0 rfl rfl 1 (by decide) (List.mem_cons_of_mem _ (inr1 _ (List.mem_of_getElem? (i := 19) rfl))) rfl (dk_at dkX5_wind 5 rfl) ?_
    refine r_get (v := .ref (a_nw 1)) C hK hP (fun w h => List.mem_cons_of_mem _ (inlX0 w h)) 5 rfl rfl 1 (by decide) (List.mem_cons_of_mem _ (inr20 _ (List.mem_of_getElem? (i := 10) rfl))) rfl (dk_at dkX5_wind 6 rfl) ?_
    refine lv_iload_n C.1 C.2.1 (dk_at dkX5_wind 7 rfl) rfl (lv_at hl 1 rfl) ?_
    obtain ⟨h4, hf⟩ := gd_at hf
    refine r_iald (k := p1.toNatClampNeg) (f := (cWi nw)) C hK hP 6 rfl h4 rfl (dk_at dkX5_wind 8 rfl) ?_
    refine lv_topi (fun x5 ex5 => ?_)
    have hf := nm_at ex5 hf
    refine lv_goto (tgt := 21) C.1 C.2.1 (dk_at dkX5_wind 9 rfl) (by decide) ?_
    cases hf
    exact fin _ _ _ (dk_at dkX5_wind 11 rfl) rfl
-- X5.alter
abbrev tbX5_alter : List (Nat × Instr × Nat) := [(0, .aload_n 0, 1), (1, .getfield 19, 3), (4, .iload_n 1, 1), (5, .invokevirtual 96, 3), (8, .ifCond .eq 20, 3), (11, .iload_n 2, 1), (12, .ifCond .lt 16, 3), (15, .iload_n 2, 1), (16, .iconst 5, 1), (17, .if_icmp .ge 11, 3), (20, .iload_n 2, 1), (21, .iload_n 3, 1), (22, .invokestatic 127, 3), (25, .ifCond .ne 5, 3), (28, .iconst (-1), 1), (29, .ireturn, 1), (30, .aload_n 0, 1), (31, .getfield 19, 3), (34, .getfield 100, 3), (37, .iload_n 1, 1), (38, .aaload, 1), (39, .iload_n 2, 1), (40, .iaload, 1), (41, .istore 4, 2), (43, .aload_n 0, 1), (44, .getfield 19, 3), (47, .getfield 100, 3), (50, .iload_n 1, 1), (51, .aaload, 1), (52, .iload_n 2, 1), (53, .iload_n 3, 1), (54, .iastore, 1), (55, .iload 4, 2), (57, .ireturn, 1)]
theorem dkX5_alter : dk cX5_alter tbX5_alter := dk_of (by decide +kernel)
abbrev cdX5_alter : Cond := Cond.code yX5_alter cX5_alter 5 (some .int)
abbrev rmX5_alter : Room := { frames := 2, cells := 0, slots := 0, locals := 41 }
theorem mwX5_alter : Cond.instanceMethod yX5_alter ∈ wsL_law ∧ Cond.selects RX5 yX5_alter yX5_alter ∈ wsL_law ∧ Cond.initialized RX5 ∈ wsL_law ∧ cdX5_alter ∈ wsL_law := ⟨inr20 _ (List.mem_of_getElem? (i := 18) rfl), inr20 _ (List.mem_of_getElem? (i := 19) rfl), inr1 _ (List.mem_of_getElem? (i := 2) rfl), inr20 _ (List.mem_of_getElem? (i := 20) rfl)⟩
theorem hdX5_alter : yX5_alter.cls = RX5 ∧ yX5_alter.cls ≠ "java/lang/invoke/MethodHandle" ∧ yX5_alter.cls ≠ "java/lang/invoke/VarHandle" ∧ (parseMethodDescriptor yX5_alter.desc).map (fun d => d.parameters.length) = some 3 := by decide +kernel
set_option maxHeartbeats 4000000 in
set_option maxRecDepth 100000 in
theorem kX5_alter (l : Launch) (g : Gx) (sz : Nat) (a_v a_rd a_nw a_tr a_da a_i0 a_i1 a_s0 a_s1 a_s2 a_s3 : Nat → Nat) (v : VT) (nw : CT) (p1 : Int32) (p2 : Int32) (p3 : Int32) (res : Int32) (nw_o : CT) (hf : fX5_alter p1 p2 p3 v nw = some (res, nw_o)) : Met l yX5_alter (cdX5_alter :: wsL_law) rmX5_alter (va_Pc [.ref (a_v 0), .int p1, .int p2, .int p3] (RWp g sz (wV g a_v a_rd a_nw a_tr a_da a_i0 a_i1 a_s0 a_s1 a_s2 a_s3 v ++ wC g a_nw nw))) (va_Qi (fun x (_ : Unit) => x = res) (fun _ => RWq g (va_A (wV g a_v a_rd a_nw a_tr a_da a_i0 a_i1 a_s0 a_s1 a_s2 a_s3 v ++ wC g a_nw nw) sz) (wV g a_v a_rd a_nw a_tr a_da a_i0 a_i1 a_s0 a_s1 a_s2 a_s3 v ++ wC g a_nw nw_o)) (va_A (wV g a_v a_rd a_nw a_tr a_da a_i0 a_i1 a_s0 a_s1 a_s2 a_s3 v ++ wC g a_nw nw) sz)) 0 0 (va_A (wV g a_v a_rd a_nw a_tr a_da a_i0 a_i1 a_s0 a_s1 a_s2 a_s3 v ++ wC g a_nw nw) sz) := by
  refine Met_rwi (cc := cX5_alter) (maxL := 5) (by decide) rfl (Nat.le_of_ble_eq_true rfl) ?_
  intro P E Z Mi AR BE ME CO A Q C hK hA fin w ls hl
  have hl : lv_has ls 5 [(0, .ref (a_v 0)), (1, .int p1), (2, .int p2), (3, .int p3)] := hl
  unfold fX5_alter at hf
  refine lv_aload_n C.1 C.2.1 (dk_at dkX5_alter 0 rfl) rfl (lv_at hl 0 rfl) ?_
  refine r_get (v := .ref (a_nw 0)) C hK w.1 (fun w h => List.mem_cons_of_mem _ (inlX5 w h)) 0 rfl rfl 1 (by decide) (List.mem_cons_of_mem _ (inr1 _ (List.mem_of_getElem? (i := 19) rfl))) rfl (dk_at dkX5_alter 1 rfl) ?_
  refine lv_iload_n C.1 C.2.1 (dk_at dkX5_alter 2 rfl) rfl (lv_at hl 1 rfl) ?_
  obtain ⟨r1, hq2, hf⟩ := bd1_at hf
  refine r_roV (As := [.int p1]) (rest := []) C (kX0_isSaying l g a_nw nw p1 r1 hq2) (cwV0 C (inr17 _ (List.mem_of_getElem? (i := 22) rfl)) mwX0_isSaying hdX0_isSaying ⟨Nat.le_of_ble_eq_true rfl, Nat.le_of_ble_eq_true rfl⟩) hK (w.1.sub [5, 6, 7, 8, 9, 10, 11, 12, 13, 14, 15] rfl) rfl rfl rfl hl.1 rfl (Nat.le_of_ble_eq_true rfl) ⟨Nat.zero_le _, Nat.zero_le _⟩ (dk_at dkX5_alter 3 rfl) ?_
  refine lv_if_eq (tgt := 28) C.1 C.2.1 (dk_at dkX5_alter 4 rfl) (by decide) (fun c3 => ?_) (fun c3 => ?_)
  · have hf := (if_pos c3).symm.trans hf
    refine lv_iconst (v := (-1)) C.1 C.2.1 (dk_at dkX5_alter 14 rfl) (by decide) ?_
    cases hf
    exact fin _ _ _ _ _ (dk_at dkX5_alter 15 rfl) rfl w
  · have hf := (if_neg c3).symm.trans hf
    refine lv_iload_n C.1 C.2.1 (dk_at dkX5_alter 5 rfl) rfl (lv_at hl 2 rfl) ?_
    refine lv_if_lt (tgt := 28) C.1 C.2.1 (dk_at dkX5_alter 6 rfl) (by decide) (fun c4 => ?_) (fun c4 => ?_)
    · have hf := (if_pos c4).symm.trans hf
      refine lv_iconst (v := (-1)) C.1 C.2.1 (dk_at dkX5_alter 14 rfl) (by decide) ?_
      cases hf
      exact fin _ _ _ _ _ (dk_at dkX5_alter 15 rfl) rfl w
    · have hf := (if_neg c4).symm.trans hf
      refine lv_iload_n C.1 C.2.1 (dk_at dkX5_alter 7 rfl) rfl (lv_at hl 2 rfl) ?_
      refine lv_iconst (v := 5) C.1 C.2.1 (dk_at dkX5_alter 8 rfl) (by decide) ?_
      refine lv_icmp_ge (tgt := 28) C.1 C.2.1 (dk_at dkX5_alter 9 rfl) (by decide) (fun c5 => ?_) (fun c5 => ?_)
      · have hf := (if_pos c5).symm.trans hf
        refine lv_iconst (v := (-1)) C.1 C.2.1 (dk_at dkX5_alter 14 rfl) (by decide) ?_
        cases hf
        exact fin _ _ _ _ _ (dk_at dkX5_alter 15 rfl) rfl w
      · have hf := (if_neg c5).symm.trans hf
        refine lv_iload_n C.1 C.2.1 (dk_at dkX5_alter 10 rfl) rfl (lv_at hl 2 rfl) ?_
        refine lv_iload_n C.1 C.2.1 (dk_at dkX5_alter 11 rfl) rfl (lv_at hl 3 rfl) ?_
        obtain ⟨r6, hq7, hf⟩ := bd1_at hf
        refine r_st (As := [.int p2, .int p3]) (rest := []) C (kX3_fits l p2 p3 r6 hq7) (cwS0 C (inr20 _ (List.mem_of_getElem? (i := 11) rfl)) mwX3_fits hdX3_fits ⟨Nat.le_of_ble_eq_true rfl, Nat.le_of_ble_eq_true rfl⟩) rfl hl.1 rfl (Nat.le_of_ble_eq_true rfl) ⟨Nat.zero_le _, Nat.zero_le _⟩ (dk_at dkX5_alter 12 rfl) ?_
        refine lv_if_ne (tgt := 30) C.1 C.2.1 (dk_at dkX5_alter 13 rfl) (by decide) (fun c8 => ?_) (fun c8 => ?_)
        · have hf := (if_neg c8).symm.trans hf
          refine lv_aload_n C.1 C.2.1 (dk_at dkX5_alter 16 rfl) rfl (lv_at hl 0 rfl) ?_
          refine r_get (v := .ref (a_nw 0)) C hK w.1 (fun w h => List.mem_cons_of_mem _ (inlX5 w h)) 0 rfl rfl 1 (by decide) (List.mem_cons_of_mem _ (inr1 _ (List.mem_of_getElem? (i := 19) rfl))) rfl (dk_at dkX5_alter 17 rfl) ?_
          refine r_get (v := .ref (a_nw 2)) C hK w.1 (fun w h => List.mem_cons_of_mem _ (inlX0 w h)) 5 rfl rfl 2 (by decide) (List.mem_cons_of_mem _ (inr17 _ (List.mem_of_getElem? (i := 21) rfl))) rfl (dk_at dkX5_alter 18 rfl) ?_
          refine lv_iload_n C.1 C.2.1 (dk_at dkX5_alter 19 rfl) rfl (lv_at hl 1 rfl) ?_
          obtain ⟨h9, hf⟩ := gd_at hf
          refine r_aldr (b := a_nw (3 + p1.toNatClampNeg)) C hK w.1 7 rfl h9 rfl (dk_at dkX5_alter 20 rfl) ?_
          have h10 := in_lt h9
          refine lv_iload_n C.1 C.2.1 (dk_at dkX5_alter 21 rfl) rfl (lv_at hl 2 rfl) ?_
          obtain ⟨h11, hf⟩ := gd_at hf
          refine r_iald (k := p2.toNatClampNeg) (a := a_nw (3 + p1.toNatClampNeg)) (n := 5) (f := cTo nw p1.toNatClampNeg) C hK w.1 (5 + (3 + p1.toNatClampNeg)) (by rcases lt5 h10 with h5 | h5 | h5 | h5 | h5 <;> rw [h5] <;> rfl) h11 rfl (dk_at dkX5_alter 22 rfl) ?_
          refine lv_topi (fun x12 ex12 => ?_)
          have hf := nm_at ex12 hf
          refine lv_istore (lv' := [(4, .int x12), (0, .ref (a_v 0)), (1, .int p1), (2, .int p2), (3, .int p3)]) C.1 C.2.1 (dk_at dkX5_alter 23 rfl) hl (by decide) rfl (fun ls hl => ?_)
          refine lv_aload_n C.1 C.2.1 (dk_at dkX5_alter 24 rfl) rfl (lv_at hl 1 rfl) ?_
          refine r_get (v := .ref (a_nw 0)) C hK w.1 (fun w h => List.mem_cons_of_mem _ (inlX5 w h)) 0 rfl rfl 1 (by decide) (List.mem_cons_of_mem _ (inr1 _ (List.mem_of_getElem? (i := 19) rfl))) rfl (dk_at dkX5_alter 25 rfl) ?_
          refine r_get (v := .ref (a_nw 2)) C hK w.1 (fun w h => List.mem_cons_of_mem _ (inlX0 w h)) 5 rfl rfl 2 (by decide) (List.mem_cons_of_mem _ (inr17 _ (List.mem_of_getElem? (i := 21) rfl))) rfl (dk_at dkX5_alter 26 rfl) ?_
          refine lv_iload_n C.1 C.2.1 (dk_at dkX5_alter 27 rfl) rfl (lv_at hl 2 rfl) ?_
          obtain ⟨h13, hf⟩ := gd_at hf
          refine r_aldr (b := a_nw (3 + p1.toNatClampNeg)) C hK w.1 7 rfl h13 rfl (dk_at dkX5_alter 28 rfl) ?_
          have h14 := in_lt h13
          refine lv_iload_n C.1 C.2.1 (dk_at dkX5_alter 29 rfl) rfl (lv_at hl 3 rfl) ?_
          refine lv_iload_n C.1 C.2.1 (dk_at dkX5_alter 30 rfl) rfl (lv_at hl 4 rfl) ?_
          obtain ⟨h15, hf⟩ := gd_at hf
          refine r_iast (k := p2.toNatClampNeg) (a := a_nw (3 + p1.toNatClampNeg)) (n := 5) (f := cTo nw p1.toNatClampNeg) C hK w (5 + (3 + p1.toNatClampNeg)) (by rcases lt5 h14 with h5 | h5 | h5 | h5 | h5 <;> rw [h5] <;> rfl) h15 rfl (dk_at dkX5_alter 31 rfl) (fun H locs w => ?_)
          obtain ⟨nw_16, enw_16⟩ : ∃ z : CT, z = cTo' nw (va_up (cTo nw) p1.toNatClampNeg (upd (cTo nw p1.toNatClampNeg) p2.toNatClampNeg p3)) := ⟨_, rfl⟩
          have hf := nm_at enw_16 hf
          have w : Wd g A Z.heap (wV g a_v a_rd a_nw a_tr a_da a_i0 a_i1 a_s0 a_s1 a_s2 a_s3 v ++ wC g a_nw nw_16) H locs := by rw [enw_16]; rcases lt5 h14 with h5 | h5 | h5 | h5 | h5 <;> (rw [h5] at w; rw [h5]; exact w)
          refine lv_iload C.1 C.2.1 (dk_at dkX5_alter 32 rfl) (lv_at hl 0 rfl) ?_
          cases hf
          exact fin _ _ _ _ _ (dk_at dkX5_alter 33 rfl) rfl w
        · have hf := (if_pos c8).symm.trans hf
          refine lv_iconst (v := (-1)) C.1 C.2.1 (dk_at dkX5_alter 14 rfl) (by decide) ?_
          cases hf
          exact fin _ _ _ _ _ (dk_at dkX5_alter 15 rfl) rfl w
-- X5.stand
abbrev tbX5_stand : List (Nat × Instr × Nat) := [(0, .aload_n 0, 1), (1, .getfield 19, 3), (4, .iload_n 1, 1), (5, .invokevirtual 110, 3), (8, .ifCond .eq 10, 3), (11, .iload_n 2, 1), (12, .invokestatic 116, 3), (15, .ifCond .ne 5, 3), (18, .iconst (-1), 1), (19, .ireturn, 1), (20, .aload_n 0, 1), (21, .getfield 19, 3), (24, .getfield 113, 3), (27, .iload_n 1, 1), (28, .iaload, 1), (29, .istore_n 3, 1), (30, .aload_n 0, 1), (31, .getfield 19, 3), (34, .getfield 113, 3), (37, .iload_n 1, 1), (38, .iload_n 2, 1), (39, .iastore, 1), (40, .iload_n 3, 1), (41, .ireturn, 1)]
theorem dkX5_stand : dk cX5_stand tbX5_stand := dk_of (by decide +kernel)
abbrev cdX5_stand : Cond := Cond.code yX5_stand cX5_stand 4 (some .int)
abbrev rmX5_stand : Room := { frames := 1, cells := 0, slots := 0, locals := 21 }
theorem mwX5_stand : Cond.instanceMethod yX5_stand ∈ wsL_law ∧ Cond.selects RX5 yX5_stand yX5_stand ∈ wsL_law ∧ Cond.initialized RX5 ∈ wsL_law ∧ cdX5_stand ∈ wsL_law := ⟨inr21 _ (List.mem_of_getElem? (i := 10) rfl), inr21 _ (List.mem_of_getElem? (i := 11) rfl), inr1 _ (List.mem_of_getElem? (i := 2) rfl), inr21 _ (List.mem_of_getElem? (i := 12) rfl)⟩
theorem hdX5_stand : yX5_stand.cls = RX5 ∧ yX5_stand.cls ≠ "java/lang/invoke/MethodHandle" ∧ yX5_stand.cls ≠ "java/lang/invoke/VarHandle" ∧ (parseMethodDescriptor yX5_stand.desc).map (fun d => d.parameters.length) = some 2 := by decide +kernel
set_option maxHeartbeats 4000000 in
set_option maxRecDepth 100000 in
theorem kX5_stand (l : Launch) (g : Gx) (sz : Nat) (a_v a_rd a_nw a_tr a_da a_i0 a_i1 a_s0 a_s1 a_s2 a_s3 : Nat → Nat) (v : VT) (nw : CT) (p1 : Int32) (p2 : Int32) (res : Int32) (nw_o : CT) (hf : fX5_stand p1 p2 v nw = some (res, nw_o)) : Met l yX5_stand (cdX5_stand :: wsL_law) rmX5_stand (va_Pc [.ref (a_v 0), .int p1, .int p2] (RWp g sz (wV g a_v a_rd a_nw a_tr a_da a_i0 a_i1 a_s0 a_s1 a_s2 a_s3 v ++ wC g a_nw nw))) (va_Qi (fun x (_ : Unit) => x = res) (fun _ => RWq g (va_A (wV g a_v a_rd a_nw a_tr a_da a_i0 a_i1 a_s0 a_s1 a_s2 a_s3 v ++ wC g a_nw nw) sz) (wV g a_v a_rd a_nw a_tr a_da a_i0 a_i1 a_s0 a_s1 a_s2 a_s3 v ++ wC g a_nw nw_o)) (va_A (wV g a_v a_rd a_nw a_tr a_da a_i0 a_i1 a_s0 a_s1 a_s2 a_s3 v ++ wC g a_nw nw) sz)) 0 0 (va_A (wV g a_v a_rd a_nw a_tr a_da a_i0 a_i1 a_s0 a_s1 a_s2 a_s3 v ++ wC g a_nw nw) sz) := by
  refine Met_rwi (cc := cX5_stand) (maxL := 4) (by decide) rfl (Nat.le_of_ble_eq_true rfl) ?_
  intro P E Z Mi AR BE ME CO A Q C hK hA fin w ls hl
  have hl : lv_has ls 4 [(0, .ref (a_v 0)), (1, .int p1), (2, .int p2)] := hl
  unfold fX5_stand at hf
  refine lv_aload_n C.1 C.2.1 (dk_at dkX5_stand 0 rfl) rfl (lv_at hl 0 rfl) ?_
  refine r_get (v := .ref (a_nw 0)) C hK w.1 (fun w h => List.mem_cons_of_mem _ (inlX5 w h)) 0 rfl rfl 1 (by decide) (List.mem_cons_of_mem _ (inr1 _ (List.mem_of_getElem? (i := 19) rfl))) rfl (dk_at dkX5_stand 1 rfl) ?_
  refine lv_iload_n C.1 C.2.1 (dk_at dkX5_stand 2 rfl) rfl (lv_at hl 1 rfl) ?_
  obtain ⟨r1, hq2, hf⟩ := bd1_at hf
  refine r_roV (As := [.int p1]) (rest := []) C (kX0_isHearer l g a_nw nw p1 r1 hq2) (cwV0 C (inr19 _ (List.mem_of_getElem? (i := 3) rfl)) mwX0_isHearer hdX0_isHearer ⟨Nat.le_of_ble_eq_true rfl, Nat.le_of_ble_eq_true rfl⟩) hK (w.1.sub [5, 6, 7, 8, 9, 10, 11, 12, 13, 14, 15] rfl) rfl rfl rfl hl.1 rfl (Nat.le_of_ble_eq_true rfl) ⟨Nat.zero_le _, Nat.zero_le _⟩ (dk_at dkX5_stand 3 rfl) ?_
  refine lv_if_eq (tgt := 18) C.1 C.2.1 (dk_at dkX5_stand 4 rfl) (by decide) (fun c3 => ?_) (fun c3 => ?_)
  · have hf := (if_pos c3).symm.trans hf
    refine lv_iconst (v := (-1)) C.1 C.2.1 (dk_at dkX5_stand 8 rfl) (by decide) ?_
    cases hf
    exact fin _ _ _ _ _ (dk_at dkX5_stand 9 rfl) rfl w
  · have hf := (if_neg c3).symm.trans hf
    refine lv_iload_n C.1 C.2.1 (dk_at dkX5_stand 5 rfl) rfl (lv_at hl 2 rfl) ?_
    obtain ⟨r4, hq5, hf⟩ := bd1_at hf
    refine r_st (As := [.int p2]) (rest := []) C (kX3_isCell l p2 r4 hq5) (cwS0 C (inr19 _ (List.mem_of_getElem? (i := 19) rfl)) mwX3_isCell hdX3_isCell ⟨Nat.le_of_ble_eq_true rfl, Nat.le_of_ble_eq_true rfl⟩) rfl hl.1 rfl (Nat.le_of_ble_eq_true rfl) ⟨Nat.zero_le _, Nat.zero_le _⟩ (dk_at dkX5_stand 6 rfl) ?_
    refine lv_if_ne (tgt := 20) C.1 C.2.1 (dk_at dkX5_stand 7 rfl) (by decide) (fun c6 => ?_) (fun c6 => ?_)
    · have hf := (if_neg c6).symm.trans hf
      refine lv_aload_n C.1 C.2.1 (dk_at dkX5_stand 10 rfl) rfl (lv_at hl 0 rfl) ?_
      refine r_get (v := .ref (a_nw 0)) C hK w.1 (fun w h => List.mem_cons_of_mem _ (inlX5 w h)) 0 rfl rfl 1 (by decide) (List.mem_cons_of_mem _ (inr1 _ (List.mem_of_getElem? (i := 19) rfl))) rfl (dk_at dkX5_stand 11 rfl) ?_
      refine r_get (v := .ref (a_nw 8)) C hK w.1 (fun w h => List.mem_cons_of_mem _ (inlX0 w h)) 5 rfl rfl 4 (by decide) (List.mem_cons_of_mem _ (inr19 _ (List.mem_of_getElem? (i := 2) rfl))) rfl (dk_at dkX5_stand 12 rfl) ?_
      refine lv_iload_n C.1 C.2.1 (dk_at dkX5_stand 13 rfl) rfl (lv_at hl 1 rfl) ?_
      obtain ⟨h7, hf⟩ := gd_at hf
      refine r_iald (k := p1.toNatClampNeg) (f := (cAt nw)) C hK w.1 13 rfl h7 rfl (dk_at dkX5_stand 14 rfl) ?_
      refine lv_topi (fun x8 ex8 => ?_)
      have hf := nm_at ex8 hf
      refine lv_istore_n (lv' := [(3, .int x8), (0, .ref (a_v 0)), (1, .int p1), (2, .int p2)]) C.1 C.2.1 (dk_at dkX5_stand 15 rfl) rfl hl (by decide) rfl (fun ls hl => ?_)
      refine lv_aload_n C.1 C.2.1 (dk_at dkX5_stand 16 rfl) rfl (lv_at hl 1 rfl) ?_
      refine r_get (v := .ref (a_nw 0)) C hK w.1 (fun w h => List.mem_cons_of_mem _ (inlX5 w h)) 0 rfl rfl 1 (by decide) (List.mem_cons_of_mem _ (inr1 _ (List.mem_of_getElem? (i := 19) rfl))) rfl (dk_at dkX5_stand 17 rfl) ?_
      refine r_get (v := .ref (a_nw 8)) C hK w.1 (fun w h => List.mem_cons_of_mem _ (inlX0 w h)) 5 rfl rfl 4 (by decide) (List.mem_cons_of_mem _ (inr19 _ (List.mem_of_getElem? (i := 2) rfl))) rfl (dk_at dkX5_stand 18 rfl) ?_
      refine lv_iload_n C.1 C.2.1 (dk_at dkX5_stand 19 rfl) rfl (lv_at hl 2 rfl) ?_
      refine lv_iload_n C.1 C.2.1 (dk_at dkX5_stand 20 rfl) rfl (lv_at hl 3 rfl) ?_
      obtain ⟨h9, hf⟩ := gd_at hf
      refine r_iast (k := p1.toNatClampNeg) (f := (cAt nw)) C hK w 13 rfl h9 rfl (dk_at dkX5_stand 21 rfl) (fun H locs w => ?_)
      obtain ⟨nw_10, enw_10⟩ : ∃ z : CT, z = cAt' nw (upd (cAt nw) p1.toNatClampNeg p2) := ⟨_, rfl⟩
      have hf := nm_at enw_10 hf
      have w : Wd g A Z.heap (wV g a_v a_rd a_nw a_tr a_da a_i0 a_i1 a_s0 a_s1 a_s2 a_s3 v ++ wC g a_nw nw_10) H locs := by rw [enw_10]; exact w
      refine lv_iload_n C.1 C.2.1 (dk_at dkX5_stand 22 rfl) rfl (lv_at hl 0 rfl) ?_
      cases hf
      exact fin _ _ _ _ _ (dk_at dkX5_stand 23 rfl) rfl w
    · have hf := (if_pos c6).symm.trans hf
      refine lv_iconst (v := (-1)) C.1 C.2.1 (dk_at dkX5_stand 8 rfl) (by decide) ?_
      cases hf
      exact fin _ _ _ _ _ (dk_at dkX5_stand 9 rfl) rfl w
-- X5.build
abbrev tbX5_build : List (Nat × Instr × Nat) := [(0, .iload_n 1, 1), (1, .invokestatic 116, 3), (4, .ifCond .ne 5, 3), (7, .iconst (-1), 1), (8, .ireturn, 1), (9, .iload_n 1, 1), (10, .invokestatic 119, 3), (13, .istore_n 3, 1), (14, .aload_n 0, 1), (15, .getfield 19, 3), (18, .getfield 83, 3), (21, .iload_n 3, 1), (22, .invokestatic 123, 3), (25, .istore 4, 2), (27, .iload_n 2, 1), (28, .ifCond .eq 26, 3), (31, .iload 4, 2), (33, .ifCond .ne 21, 3), (36, .aload_n 0, 1), (37, .getfield 19, 3), (40, .getfield 83, 3), (43, .invokestatic 87, 3), (46, .bipush 12, 2), (48, .if_icmp .lt 6, 3), (51, .bipush (-3), 2), (53, .ireturn, 1), (54, .aload_n 0, 1), (55, .getfield 19, 3), (58, .iload_n 2, 1), (59, .ifCond .eq 17, 3), (62, .aload_n 0, 1), (63, .getfield 19, 3), (66, .getfield 83, 3), (69, .lconst 1, 1), (70, .iload_n 3, 1), (71, .lshl, 1), (72, .lor, 1), (73, .goto 18, 3), (76, .aload_n 0, 1), (77, .getfield 19, 3), (80, .getfield 83, 3), (83, .lconst 1, 1), (84, .iload_n 3, 1), (85, .lshl, 1), (86, .ldc2_w 134, 3), (89, .lxor, 1), (90, .land, 1), (91, .putfield 83, 3), (94, .iload 4, 2), (96, .ifCond .eq 7, 3), (99, .iconst 1, 1), (100, .goto 4, 3), (103, .iconst 0, 1), (104, .ireturn, 1)]
theorem dkX5_build : dk cX5_build tbX5_build := dk_of (by decide +kernel)
abbrev cdX5_build : Cond := Cond.code yX5_build cX5_build 5 (some .int)
abbrev rmX5_build : Room := { frames := 1, cells := 0, slots := 0, locals := 22 }
theorem mwX5_build : Cond.instanceMethod yX5_build ∈ wsL_law ∧ Cond.selects RX5 yX5_build yX5_build ∈ wsL_law ∧ Cond.initialized RX5 ∈ wsL_law ∧ cdX5_build ∈ wsL_law := ⟨inr21 _ (List.mem_of_getElem? (i := 18) rfl), inr21 _ (List.mem_of_getElem? (i := 19) rfl), inr1 _ (List.mem_of_getElem? (i := 2) rfl), inr21 _ (List.mem_of_getElem? (i := 20) rfl)⟩
theorem hdX5_build : yX5_build.cls = RX5 ∧ yX5_build.cls ≠ "java/lang/invoke/MethodHandle" ∧ yX5_build.cls ≠ "java/lang/invoke/VarHandle" ∧ (parseMethodDescriptor yX5_build.desc).map (fun d => d.parameters.length) = some 2 := by decide +kernel
set_option maxHeartbeats 4000000 in
set_option maxRecDepth 100000 in
theorem kX5_build (l : Launch) (g : Gx) (sz : Nat) (a_v a_rd a_nw a_tr a_da a_i0 a_i1 a_s0 a_s1 a_s2 a_s3 : Nat → Nat) (v : VT) (nw : CT) (p1 : Int32) (p2 : Int32) (res : Int32) (nw_o : CT) (hf : fX5_build p1 p2 v nw = some (res, nw_o)) : Met l yX5_build (cdX5_build :: wsL_law) rmX5_build (va_Pc [.ref (a_v 0), .int p1, .int p2] (RWp g sz (wV g a_v a_rd a_nw a_tr a_da a_i0 a_i1 a_s0 a_s1 a_s2 a_s3 v ++ wC g a_nw nw))) (va_Qi (fun x (_ : Unit) => x = res) (fun _ => RWq g (va_A (wV g a_v a_rd a_nw a_tr a_da a_i0 a_i1 a_s0 a_s1 a_s2 a_s3 v ++ wC g a_nw nw) sz) (wV g a_v a_rd a_nw a_tr a_da a_i0 a_i1 a_s0 a_s1 a_s2 a_s3 v ++ wC g a_nw nw_o)) (va_A (wV g a_v a_rd a_nw a_tr a_da a_i0 a_i1 a_s0 a_s1 a_s2 a_s3 v ++ wC g a_nw nw) sz)) 0 0 (va_A (wV g a_v a_rd a_nw a_tr a_da a_i0 a_i1 a_s0 a_s1 a_s2 a_s3 v ++ wC g a_nw nw) sz) := by
  refine Met_rwi (cc := cX5_build) (maxL := 5) (by decide) rfl (Nat.le_of_ble_eq_true rfl) ?_
  intro P E Z Mi AR BE ME CO A Q C hK hA fin w ls hl
  have hl : lv_has ls 5 [(0, .ref (a_v 0)), (1, .int p1), (2, .int p2)] := hl
  unfold fX5_build at hf
  refine lv_iload_n C.1 C.2.1 (dk_at dkX5_build 0 rfl) rfl (lv_at hl 1 rfl) ?_
  obtain ⟨r1, hq2, hf⟩ := bd1_at hf
  refine r_st (As := [.int p1]) (rest := []) C (kX3_isCell l p1 r1 hq2) (cwS0 C (inr19 _ (List.mem_of_getElem? (i := 19) rfl)) mwX3_isCell hdX3_isCell ⟨Nat.le_of_ble_eq_true rfl, Nat.le_of_ble_eq_true rfl⟩) rfl hl.1 rfl (Nat.le_of_ble_eq_true rfl) ⟨Nat.zero_le _, Nat.zero_le _⟩ (dk_at dkX5_build 1 rfl) ?_
  refine lv_if_ne (tgt := 9) C.1 C.2.1 (dk_at dkX5_build 2 rfl) (by decide) (fun c3 => ?_) (fun c3 => ?_)
  · have hf := (if_neg c3).symm.trans hf
    refine lv_iload_n C.1 C.2.1 (dk_at dkX5_build 5 rfl) rfl (lv_at hl 1 rfl) ?_
    obtain ⟨r4, hq5, hf⟩ := bd1_at hf
    refine r_st (As := [.int p1]) (rest := []) C (kX3_placeOf l p1 r4 hq5) (cwS0 C (inr19 _ (List.mem_of_getElem? (i := 20) rfl)) mwX3_placeOf hdX3_placeOf ⟨Nat.le_of_ble_eq_true rfl, Nat.le_of_ble_eq_true rfl⟩) rfl hl.1 rfl (Nat.le_of_ble_eq_true rfl) ⟨Nat.zero_le _, Nat.zero_le _⟩ (dk_at dkX5_build 6 rfl) ?_
    refine lv_istore_n (lv' := [(3, .int r4), (0, .ref (a_v 0)), (1, .int p1), (2, .int p2)]) C.1 C.2.1 (dk_at dkX5_build 7 rfl) rfl hl (by decide) rfl (fun ls hl => ?_)
    refine lv_aload_n C.1 C.2.1 (dk_at dkX5_build 8 rfl) rfl (lv_at hl 1 rfl) ?_
    refine r_get (v := .ref (a_nw 0)) C hK w.1 (fun w h => List.mem_cons_of_mem _ (inlX5 w h)) 0 rfl rfl 1 (by decide) (List.mem_cons_of_mem _ (inr1 _ (List.mem_of_getElem? (i := 19) rfl))) rfl (dk_at dkX5_build 9 rfl) ?_
    refine r_get (v := .long (cW nw)) C hK w.1 (fun w h => List.mem_cons_of_mem _ (inlX0 w h)) 5 rfl rfl 0 (by decide) (List.mem_cons_of_mem _ (inr16 _ (List.mem_of_getElem? (i := 17) rfl))) rfl (dk_at dkX5_build 10 rfl) ?_
    refine lv_iload_n C.1 C.2.1 (dk_at dkX5_build 11 rfl) rfl (lv_at hl 0 rfl) ?_
    obtain ⟨r6, hq7, hf⟩ := bd1_at hf
    refine r_st (As := [.long (cW nw), .int r4]) (rest := []) C (kX3_has l (cW nw) r4 r6 hq7) (cwS0 C (inr19 _ (List.mem_of_getElem? (i := 21) rfl)) mwX3_has hdX3_has ⟨Nat.le_of_ble_eq_true rfl, Nat.le_of_ble_eq_true rfl⟩) rfl hl.1 rfl (Nat.le_of_ble_eq_true rfl) ⟨Nat.zero_le _, Nat.zero_le _⟩ (dk_at dkX5_build 12 rfl) ?_
    refine lv_istore (lv' := [(4, .int r6), (3, .int r4), (0, .ref (a_v 0)), (1, .int p1), (2, .int p2)]) C.1 C.2.1 (dk_at dkX5_build 13 rfl) hl (by decide) rfl (fun ls hl => ?_)
    refine lv_iload_n C.1 C.2.1 (dk_at dkX5_build 14 rfl) rfl (lv_at hl 4 rfl) ?_
    refine lv_if_eq (tgt := 54) C.1 C.2.1 (dk_at dkX5_build 15 rfl) (by decide) (fun c8 => ?_) (fun c8 => ?_)
    · have hf := (if_pos c8).symm.trans hf
      refine lv_aload_n C.1 C.2.1 (dk_at dkX5_build 26 rfl) rfl (lv_at hl 2 rfl) ?_
      refine r_get (v := .ref (a_nw 0)) C hK w.1 (fun w h => List.mem_cons_of_mem _ (inlX5 w h)) 0 rfl rfl 1 (by decide) (List.mem_cons_of_mem _ (inr1 _ (List.mem_of_getElem? (i := 19) rfl))) rfl (dk_at dkX5_build 27 rfl) ?_
      refine lv_iload_n C.1 C.2.1 (dk_at dkX5_build 28 rfl) rfl (lv_at hl 4 rfl) ?_
      obtain ⟨y9, hq10, hf⟩ := bd1_at hf
      have J11 : ∀ (H : Heap) (locs : List Loc) (ls : Array Slot), Wd g A Z.heap (wV g a_v a_rd a_nw a_tr a_da a_i0 a_i1 a_s0 a_s1 a_s2 a_s3 v ++ wC g a_nw nw) H locs → lv_has ls 5 [(4, .int r6)] → W P l E rmX5_build Z Mi AR BE ME CO H locs 0 0 Q (F0 Mi 91 ls [.long y9, .ref (a_nw 0)]) := by
        intro H locs ls w hl
        refine r_put (v := .long y9) C hK w (fun w h => List.mem_cons_of_mem _ (inlX0 w h)) tyX0 tyX0_ok nmX0 5 rfl rfl 0 (by decide) (List.mem_cons_of_mem _ (inr16 _ (List.mem_of_getElem? (i := 17) rfl))) rfl rfl rfl (Nat.le_of_ble_eq_true rfl) (dk_at dkX5_build 47 rfl) (fun H locs w => ?_)
        obtain ⟨nw_12, enw_12⟩ : ∃ z : CT, z = cW' nw y9 := ⟨_, rfl⟩
        have hf := nm_at enw_12 hf
        have w : Wd g A Z.heap (wV g a_v a_rd a_nw a_tr a_da a_i0 a_i1 a_s0 a_s1 a_s2 a_s3 v ++ wC g a_nw nw_12) H locs := by rw [enw_12]; exact w
        refine lv_iload C.1 C.2.1 (dk_at dkX5_build 48 rfl) (lv_at hl 0 rfl) ?_
        refine lv_if_eq (tgt := 103) C.1 C.2.1 (dk_at dkX5_build 49 rfl) (by decide) (fun c13 => ?_) (fun c13 => ?_)
        · have hf := (if_pos c13).symm.trans hf
          refine lv_iconst (v := 0) C.1 C.2.1 (dk_at dkX5_build 52 rfl) (by decide) ?_
          cases hf
          exact fin _ _ _ _ _ (dk_at dkX5_build 53 rfl) rfl w
        · have hf := (if_neg c13).symm.trans hf
          refine lv_iconst (v := 1) C.1 C.2.1 (dk_at dkX5_build 50 rfl) (by decide) ?_
          refine lv_goto (tgt := 104) C.1 C.2.1 (dk_at dkX5_build 51 rfl) (by decide) ?_
          cases hf
          exact fin _ _ _ _ _ (dk_at dkX5_build 53 rfl) rfl w
      clear hf
      have hf := hq10
      refine lv_if_eq (tgt := 76) C.1 C.2.1 (dk_at dkX5_build 29 rfl) (by decide) (fun c14 => ?_) (fun c14 => ?_)
      · have hf := (if_pos c14).symm.trans hf
        refine lv_aload_n C.1 C.2.1 (dk_at dkX5_build 38 rfl) rfl (lv_at hl 2 rfl) ?_
        refine r_get (v := .ref (a_nw 0)) C hK w.1 (fun w h => List.mem_cons_of_mem _ (inlX5 w h)) 0 rfl rfl 1 (by decide) (List.mem_cons_of_mem _ (inr1 _ (List.mem_of_getElem? (i := 19) rfl))) rfl (dk_at dkX5_build 39 rfl) ?_
        refine r_get (v := .long (cW nw)) C hK w.1 (fun w h => List.mem_cons_of_mem _ (inlX0 w h)) 5 rfl rfl 0 (by decide) (List.mem_cons_of_mem _ (inr16 _ (List.mem_of_getElem? (i := 17) rfl))) rfl (dk_at dkX5_build 40 rfl) ?_
        refine lv_lconst (v := 1) C.1 C.2.1 (dk_at dkX5_build 41 rfl) (by decide) ?_
        refine lv_iload_n C.1 C.2.1 (dk_at dkX5_build 42 rfl) rfl (lv_at hl 1 rfl) ?_
        refine lv_lshl C.1 C.2.1 (dk_at dkX5_build 43 rfl) rfl ?_
        refine lv_topl (fun x15 ex15 => ?_)
        have hf := nm_at ex15 hf
        refine lv_ldc2 (v := (-1)) C.1 C.2.1 C.2.2.2.1 (C.2.2.2.2 _ (List.mem_cons_of_mem _ (inr21 _ (List.mem_of_getElem? (i := 21) rfl)))) (dk_at dkX5_build 44 rfl) ?_
        refine lv_lxor C.1 C.2.1 (dk_at dkX5_build 45 rfl) ?_
        refine lv_land C.1 C.2.1 (dk_at dkX5_build 46 rfl) ?_
        refine lv_topl (fun x16 ex16 => ?_)
        have hf := nm_at ex16 hf
        cases hf
        exact J11 _ _ _ w (lv_sub hl [0] rfl)
      · have hf := (if_neg c14).symm.trans hf
        refine lv_aload_n C.1 C.2.1 (dk_at dkX5_build 30 rfl) rfl (lv_at hl 2 rfl) ?_
        refine r_get (v := .ref (a_nw 0)) C hK w.1 (fun w h => List.mem_cons_of_mem _ (inlX5 w h)) 0 rfl rfl 1 (by decide) (List.mem_cons_of_mem _ (inr1 _ (List.mem_of_getElem? (i := 19) rfl))) rfl (dk_at dkX5_build 31 rfl) ?_
        refine r_get (v := .long (cW nw)) C hK w.1 (fun w h => List.mem_cons_of_mem _ (inlX0 w h)) 5 rfl rfl 0 (by decide) (List.mem_cons_of_mem _ (inr16 _ (List.mem_of_getElem? (i := 17) rfl))) rfl (dk_at dkX5_build 32 rfl) ?_
        refine lv_lconst (v := 1) C.1 C.2.1 (dk_at dkX5_build 33 rfl) (by decide) ?_
        refine lv_iload_n C.1 C.2.1 (dk_at dkX5_build 34 rfl) rfl (lv_at hl 1 rfl) ?_
        refine lv_lshl C.1 C.2.1 (dk_at dkX5_build 35 rfl) rfl ?_
        refine lv_lor C.1 C.2.1 (dk_at dkX5_build 36 rfl) ?_
        refine lv_topl (fun x17 ex17 => ?_)
        have hf := nm_at ex17 hf
        refine lv_goto (tgt := 91) C.1 C.2.1 (dk_at dkX5_build 37 rfl) (by decide) ?_
        cases hf
        exact J11 _ _ _ w (lv_sub hl [0] rfl)
    · have hf := (if_neg c8).symm.trans hf
      refine lv_iload C.1 C.2.1 (dk_at dkX5_build 16 rfl) (lv_at hl 0 rfl) ?_
      refine lv_if_ne (tgt := 54) C.1 C.2.1 (dk_at dkX5_build 17 rfl) (by decide) (fun c18 => ?_) (fun c18 => ?_)
      · have hf := (if_neg c18).symm.trans hf
        refine lv_aload_n C.1 C.2.1 (dk_at dkX5_build 26 rfl) rfl (lv_at hl 2 rfl) ?_
        refine r_get (v := .ref (a_nw 0)) C hK w.1 (fun w h => List.mem_cons_of_mem _ (inlX5 w h)) 0 rfl rfl 1 (by decide) (List.mem_cons_of_mem _ (inr1 _ (List.mem_of_getElem? (i := 19) rfl))) rfl (dk_at dkX5_build 27 rfl) ?_
        refine lv_iload_n C.1 C.2.1 (dk_at dkX5_build 28 rfl) rfl (lv_at hl 4 rfl) ?_
        obtain ⟨y19, hq20, hf⟩ := bd1_at hf
        have J21 : ∀ (H : Heap) (locs : List Loc) (ls : Array Slot), Wd g A Z.heap (wV g a_v a_rd a_nw a_tr a_da a_i0 a_i1 a_s0 a_s1 a_s2 a_s3 v ++ wC g a_nw nw) H locs → lv_has ls 5 [(4, .int r6)] → W P l E rmX5_build Z Mi AR BE ME CO H locs 0 0 Q (F0 Mi 91 ls [.long y19, .ref (a_nw 0)]) := by
          intro H locs ls w hl
          refine r_put (v := .long y19) C hK w (fun w h => List.mem_cons_of_mem _ (inlX0 w h)) tyX0 tyX0_ok nmX0 5 rfl rfl 0 (by decide) (List.mem_cons_of_mem _ (inr16 _ (List.mem_of_getElem? (i := 17) rfl))) rfl rfl rfl (Nat.le_of_ble_eq_true rfl) (dk_at dkX5_build 47 rfl) (fun H locs w => ?_)
          obtain ⟨nw_22, enw_22⟩ : ∃ z : CT, z = cW' nw y19 := ⟨_, rfl⟩
          have hf := nm_at enw_22 hf
          have w : Wd g A Z.heap (wV g a_v a_rd a_nw a_tr a_da a_i0 a_i1 a_s0 a_s1 a_s2 a_s3 v ++ wC g a_nw nw_22) H locs := by rw [enw_22]; exact w
          refine lv_iload C.1 C.2.1 (dk_at dkX5_build 48 rfl) (lv_at hl 0 rfl) ?_
          refine lv_if_eq (tgt := 103) C.1 C.2.1 (dk_at dkX5_build 49 rfl) (by decide) (fun c23 => ?_) (fun c23 => ?_)
          · have hf := (if_pos c23).symm.trans hf
            refine lv_iconst (v := 0) C.1 C.2.1 (dk_at dkX5_build 52 rfl) (by decide) ?_
            cases hf
            exact fin _ _ _ _ _ (dk_at dkX5_build 53 rfl) rfl w
          · have hf := (if_neg c23).symm.trans hf
            refine lv_iconst (v := 1) C.1 C.2.1 (dk_at dkX5_build 50 rfl) (by decide) ?_
            refine lv_goto (tgt := 104) C.1 C.2.1 (dk_at dkX5_build 51 rfl) (by decide) ?_
            cases hf
            exact fin _ _ _ _ _ (dk_at dkX5_build 53 rfl) rfl w
        clear hf
        have hf := hq20
        refine lv_if_eq (tgt := 76) C.1 C.2.1 (dk_at dkX5_build 29 rfl) (by decide) (fun c24 => ?_) (fun c24 => ?_)
        · have hf := (if_pos c24).symm.trans hf
          refine lv_aload_n C.1 C.2.1 (dk_at dkX5_build 38 rfl) rfl (lv_at hl 2 rfl) ?_
          refine r_get (v := .ref (a_nw 0)) C hK w.1 (fun w h => List.mem_cons_of_mem _ (inlX5 w h)) 0 rfl rfl 1 (by decide) (List.mem_cons_of_mem _ (inr1 _ (List.mem_of_getElem? (i := 19) rfl))) rfl (dk_at dkX5_build 39 rfl) ?_
          refine r_get (v := .long (cW nw)) C hK w.1 (fun w h => List.mem_cons_of_mem _ (inlX0 w h)) 5 rfl rfl 0 (by decide) (List.mem_cons_of_mem _ (inr16 _ (List.mem_of_getElem? (i := 17) rfl))) rfl (dk_at dkX5_build 40 rfl) ?_
          refine lv_lconst (v := 1) C.1 C.2.1 (dk_at dkX5_build 41 rfl) (by decide) ?_
          refine lv_iload_n C.1 C.2.1 (dk_at dkX5_build 42 rfl) rfl (lv_at hl 1 rfl) ?_
          refine lv_lshl C.1 C.2.1 (dk_at dkX5_build 43 rfl) rfl ?_
          refine lv_topl (fun x25 ex25 => ?_)
          have hf := nm_at ex25 hf
          refine lv_ldc2 (v := (-1)) C.1 C.2.1 C.2.2.2.1 (C.2.2.2.2 _ (List.mem_cons_of_mem _ (inr21 _ (List.mem_of_getElem? (i := 21) rfl)))) (dk_at dkX5_build 44 rfl) ?_
          refine lv_lxor C.1 C.2.1 (dk_at dkX5_build 45 rfl) ?_
          refine lv_land C.1 C.2.1 (dk_at dkX5_build 46 rfl) ?_
          refine lv_topl (fun x26 ex26 => ?_)
          have hf := nm_at ex26 hf
          cases hf
          exact J21 _ _ _ w (lv_sub hl [0] rfl)
        · have hf := (if_neg c24).symm.trans hf
          refine lv_aload_n C.1 C.2.1 (dk_at dkX5_build 30 rfl) rfl (lv_at hl 2 rfl) ?_
          refine r_get (v := .ref (a_nw 0)) C hK w.1 (fun w h => List.mem_cons_of_mem _ (inlX5 w h)) 0 rfl rfl 1 (by decide) (List.mem_cons_of_mem _ (inr1 _ (List.mem_of_getElem? (i := 19) rfl))) rfl (dk_at dkX5_build 31 rfl) ?_
          refine r_get (v := .long (cW nw)) C hK w.1 (fun w h => List.mem_cons_of_mem _ (inlX0 w h)) 5 rfl rfl 0 (by decide) (List.mem_cons_of_mem _ (inr16 _ (List.mem_of_getElem? (i := 17) rfl))) rfl (dk_at dkX5_build 32 rfl) ?_
          refine lv_lconst (v := 1) C.1 C.2.1 (dk_at dkX5_build 33 rfl) (by decide) ?_
          refine lv_iload_n C.1 C.2.1 (dk_at dkX5_build 34 rfl) rfl (lv_at hl 1 rfl) ?_
          refine lv_lshl C.1 C.2.1 (dk_at dkX5_build 35 rfl) rfl ?_
          refine lv_lor C.1 C.2.1 (dk_at dkX5_build 36 rfl) ?_
          refine lv_topl (fun x27 ex27 => ?_)
          have hf := nm_at ex27 hf
          refine lv_goto (tgt := 91) C.1 C.2.1 (dk_at dkX5_build 37 rfl) (by decide) ?_
          cases hf
          exact J21 _ _ _ w (lv_sub hl [0] rfl)
      · have hf := (if_pos c18).symm.trans hf
        refine lv_aload_n C.1 C.2.1 (dk_at dkX5_build 18 rfl) rfl (lv_at hl 2 rfl) ?_
        refine r_get (v := .ref (a_nw 0)) C hK w.1 (fun w h => List.mem_cons_of_mem _ (inlX5 w h)) 0 rfl rfl 1 (by decide) (List.mem_cons_of_mem _ (inr1 _ (List.mem_of_getElem? (i := 19) rfl))) rfl (dk_at dkX5_build 19 rfl) ?_
        refine r_get (v := .long (cW nw)) C hK w.1 (fun w h => List.mem_cons_of_mem _ (inlX0 w h)) 5 rfl rfl 0 (by decide) (List.mem_cons_of_mem _ (inr16 _ (List.mem_of_getElem? (i := 17) rfl))) rfl (dk_at dkX5_build 20 rfl) ?_
        obtain ⟨r28, hq29, hf⟩ := bd1_at hf
        refine r_st (As := [.long (cW nw)]) (rest := []) C (kJ13_bitCount_95d88 l (cW nw) r28 hq29) (cwS0 C (inr16 _ (List.mem_of_getElem? (i := 18) rfl)) mwJ13_bitCount_95d88 hdJ13_bitCount_95d88 ⟨Nat.le_of_ble_eq_true rfl, Nat.le_of_ble_eq_true rfl⟩) rfl hl.1 rfl (Nat.le_of_ble_eq_true rfl) ⟨Nat.zero_le _, Nat.zero_le _⟩ (dk_at dkX5_build 21 rfl) ?_
        refine lv_bipush (v := 12) C.1 C.2.1 (dk_at dkX5_build 22 rfl) (by decide) ?_
        refine lv_icmp_lt (tgt := 54) C.1 C.2.1 (dk_at dkX5_build 23 rfl) (by decide) (fun c30 => ?_) (fun c30 => ?_)
        · have hf := (if_pos c30).symm.trans hf
          refine lv_aload_n C.1 C.2.1 (dk_at dkX5_build 26 rfl) rfl (lv_at hl 2 rfl) ?_
          refine r_get (v := .ref (a_nw 0)) C hK w.1 (fun w h => List.mem_cons_of_mem _ (inlX5 w h)) 0 rfl rfl 1 (by decide) (List.mem_cons_of_mem _ (inr1 _ (List.mem_of_getElem? (i := 19) rfl))) rfl (dk_at dkX5_build 27 rfl) ?_
          refine lv_iload_n C.1 C.2.1 (dk_at dkX5_build 28 rfl) rfl (lv_at hl 4 rfl) ?_
          obtain ⟨y31, hq32, hf⟩ := bd1_at hf
          have J33 : ∀ (H : Heap) (locs : List Loc) (ls : Array Slot), Wd g A Z.heap (wV g a_v a_rd a_nw a_tr a_da a_i0 a_i1 a_s0 a_s1 a_s2 a_s3 v ++ wC g a_nw nw) H locs → lv_has ls 5 [(4, .int r6)] → W P l E rmX5_build Z Mi AR BE ME CO H locs 0 0 Q (F0 Mi 91 ls [.long y31, .ref (a_nw 0)]) := by
            intro H locs ls w hl
            refine r_put (v := .long y31) C hK w (fun w h => List.mem_cons_of_mem _ (inlX0 w h)) tyX0 tyX0_ok nmX0 5 rfl rfl 0 (by decide) (List.mem_cons_of_mem _ (inr16 _ (List.mem_of_getElem? (i := 17) rfl))) rfl rfl rfl (Nat.le_of_ble_eq_true rfl) (dk_at dkX5_build 47 rfl) (fun H locs w => ?_)
            obtain ⟨nw_34, enw_34⟩ : ∃ z : CT, z = cW' nw y31 := ⟨_, rfl⟩
            have hf := nm_at enw_34 hf
            have w : Wd g A Z.heap (wV g a_v a_rd a_nw a_tr a_da a_i0 a_i1 a_s0 a_s1 a_s2 a_s3 v ++ wC g a_nw nw_34) H locs := by rw [enw_34]; exact w
            refine lv_iload C.1 C.2.1 (dk_at dkX5_build 48 rfl) (lv_at hl 0 rfl) ?_
            refine lv_if_eq (tgt := 103) C.1 C.2.1 (dk_at dkX5_build 49 rfl) (by decide) (fun c35 => ?_) (fun c35 => ?_)
            · have hf := (if_pos c35).symm.trans hf
              refine lv_iconst (v := 0) C.1 C.2.1 (dk_at dkX5_build 52 rfl) (by decide) ?_
              cases hf
              exact fin _ _ _ _ _ (dk_at dkX5_build 53 rfl) rfl w
            · have hf := (if_neg c35).symm.trans hf
              refine lv_iconst (v := 1) C.1 C.2.1 (dk_at dkX5_build 50 rfl) (by decide) ?_
              refine lv_goto (tgt := 104) C.1 C.2.1 (dk_at dkX5_build 51 rfl) (by decide) ?_
              cases hf
              exact fin _ _ _ _ _ (dk_at dkX5_build 53 rfl) rfl w
          clear hf
          have hf := hq32
          refine lv_if_eq (tgt := 76) C.1 C.2.1 (dk_at dkX5_build 29 rfl) (by decide) (fun c36 => ?_) (fun c36 => ?_)
          · have hf := (if_pos c36).symm.trans hf
            refine lv_aload_n C.1 C.2.1 (dk_at dkX5_build 38 rfl) rfl (lv_at hl 2 rfl) ?_
            refine r_get (v := .ref (a_nw 0)) C hK w.1 (fun w h => List.mem_cons_of_mem _ (inlX5 w h)) 0 rfl rfl 1 (by decide) (List.mem_cons_of_mem _ (inr1 _ (List.mem_of_getElem? (i := 19) rfl))) rfl (dk_at dkX5_build 39 rfl) ?_
            refine r_get (v := .long (cW nw)) C hK w.1 (fun w h => List.mem_cons_of_mem _ (inlX0 w h)) 5 rfl rfl 0 (by decide) (List.mem_cons_of_mem _ (inr16 _ (List.mem_of_getElem? (i := 17) rfl))) rfl (dk_at dkX5_build 40 rfl) ?_
            refine lv_lconst (v := 1) C.1 C.2.1 (dk_at dkX5_build 41 rfl) (by decide) ?_
            refine lv_iload_n C.1 C.2.1 (dk_at dkX5_build 42 rfl) rfl (lv_at hl 1 rfl) ?_
            refine lv_lshl C.1 C.2.1 (dk_at dkX5_build 43 rfl) rfl ?_
            refine lv_topl (fun x37 ex37 => ?_)
            have hf := nm_at ex37 hf
            refine lv_ldc2 (v := (-1)) C.1 C.2.1 C.2.2.2.1 (C.2.2.2.2 _ (List.mem_cons_of_mem _ (inr21 _ (List.mem_of_getElem? (i := 21) rfl)))) (dk_at dkX5_build 44 rfl) ?_
            refine lv_lxor C.1 C.2.1 (dk_at dkX5_build 45 rfl) ?_
            refine lv_land C.1 C.2.1 (dk_at dkX5_build 46 rfl) ?_
            refine lv_topl (fun x38 ex38 => ?_)
            have hf := nm_at ex38 hf
            cases hf
            exact J33 _ _ _ w (lv_sub hl [0] rfl)
          · have hf := (if_neg c36).symm.trans hf
            refine lv_aload_n C.1 C.2.1 (dk_at dkX5_build 30 rfl) rfl (lv_at hl 2 rfl) ?_
            refine r_get (v := .ref (a_nw 0)) C hK w.1 (fun w h => List.mem_cons_of_mem _ (inlX5 w h)) 0 rfl rfl 1 (by decide) (List.mem_cons_of_mem _ (inr1 _ (List.mem_of_getElem? (i := 19) rfl))) rfl (dk_at dkX5_build 31 rfl) ?_
            refine r_get (v := .long (cW nw)) C hK w.1 (fun w h => List.mem_cons_of_mem _ (inlX0 w h)) 5 rfl rfl 0 (by decide) (List.mem_cons_of_mem _ (inr16 _ (List.mem_of_getElem? (i := 17) rfl))) rfl (dk_at dkX5_build 32 rfl) ?_
            refine lv_lconst (v := 1) C.1 C.2.1 (dk_at dkX5_build 33 rfl) (by decide) ?_
            refine lv_iload_n C.1 C.2.1 (dk_at dkX5_build 34 rfl) rfl (lv_at hl 1 rfl) ?_
            refine lv_lshl C.1 C.2.1 (dk_at dkX5_build 35 rfl) rfl ?_
            refine lv_lor C.1 C.2.1 (dk_at dkX5_build 36 rfl) ?_
            refine lv_topl (fun x39 ex39 => ?_)
            have hf := nm_at ex39 hf
            refine lv_goto (tgt := 91) C.1 C.2.1 (dk_at dkX5_build 37 rfl) (by decide) ?_
            cases hf
            exact J33 _ _ _ w (lv_sub hl [0] rfl)
        · have hf := (if_neg c30).symm.trans hf
          refine lv_bipush (v := (-3)) C.1 C.2.1 (dk_at dkX5_build 24 rfl) (by decide) ?_
          cases hf
          exact fin _ _ _ _ _ (dk_at dkX5_build 25 rfl) rfl w
  · have hf := (if_pos c3).symm.trans hf
    refine lv_iconst (v := (-1)) C.1 C.2.1 (dk_at dkX5_build 3 rfl) (by decide) ?_
    cases hf
    exact fin _ _ _ _ _ (dk_at dkX5_build 4 rfl) rfl w
-- X5.blow
abbrev tbX5_blow : List (Nat × Instr × Nat) := [(0, .iconst 4, 1), (1, .iload_n 1, 1), (2, .invokestatic 127, 3), (5, .ifCond .eq 11, 3), (8, .iconst 5, 1), (9, .iload_n 2, 1), (10, .invokestatic 127, 3), (13, .ifCond .ne 5, 3), (16, .iconst (-1), 1), (17, .ireturn, 1), (18, .aload_n 0, 1), (19, .getfield 19, 3), (22, .getfield 131, 3), (25, .iload_n 1, 1), (26, .iaload, 1), (27, .istore_n 3, 1), (28, .aload_n 0, 1), (29, .getfield 19, 3), (32, .getfield 131, 3), (35, .iload_n 1, 1), (36, .iload_n 2, 1), (37, .iastore, 1), (38, .iload_n 3, 1), (39, .ireturn, 1)]
theorem dkX5_blow : dk cX5_blow tbX5_blow := dk_of (by decide +kernel)
abbrev cdX5_blow : Cond := Cond.code yX5_blow cX5_blow 4 (some .int)
abbrev rmX5_blow : Room := { frames := 2, cells := 0, slots := 0, locals := 41 }
theorem mwX5_blow : Cond.instanceMethod yX5_blow ∈ wsL_law ∧ Cond.selects RX5 yX5_blow yX5_blow ∈ wsL_law ∧ Cond.initialized RX5 ∈ wsL_law ∧ cdX5_blow ∈ wsL_law := ⟨inr22 _ (List.mem_of_getElem? (i := 3) rfl), inr22 _ (List.mem_of_getElem? (i := 4) rfl), inr1 _ (List.mem_of_getElem? (i := 2) rfl), inr22 _ (List.mem_of_getElem? (i := 5) rfl)⟩
theorem hdX5_blow : yX5_blow.cls = RX5 ∧ yX5_blow.cls ≠ "java/lang/invoke/MethodHandle" ∧ yX5_blow.cls ≠ "java/lang/invoke/VarHandle" ∧ (parseMethodDescriptor yX5_blow.desc).map (fun d => d.parameters.length) = some 2 := by decide +kernel
set_option maxHeartbeats 4000000 in
set_option maxRecDepth 100000 in
theorem kX5_blow (l : Launch) (g : Gx) (sz : Nat) (a_v a_rd a_nw a_tr a_da a_i0 a_i1 a_s0 a_s1 a_s2 a_s3 : Nat → Nat) (v : VT) (nw : CT) (p1 : Int32) (p2 : Int32) (res : Int32) (nw_o : CT) (hf : fX5_blow p1 p2 v nw = some (res, nw_o)) : Met l yX5_blow (cdX5_blow :: wsL_law) rmX5_blow (va_Pc [.ref (a_v 0), .int p1, .int p2] (RWp g sz (wV g a_v a_rd a_nw a_tr a_da a_i0 a_i1 a_s0 a_s1 a_s2 a_s3 v ++ wC g a_nw nw))) (va_Qi (fun x (_ : Unit) => x = res) (fun _ => RWq g (va_A (wV g a_v a_rd a_nw a_tr a_da a_i0 a_i1 a_s0 a_s1 a_s2 a_s3 v ++ wC g a_nw nw) sz) (wV g a_v a_rd a_nw a_tr a_da a_i0 a_i1 a_s0 a_s1 a_s2 a_s3 v ++ wC g a_nw nw_o)) (va_A (wV g a_v a_rd a_nw a_tr a_da a_i0 a_i1 a_s0 a_s1 a_s2 a_s3 v ++ wC g a_nw nw) sz)) 0 0 (va_A (wV g a_v a_rd a_nw a_tr a_da a_i0 a_i1 a_s0 a_s1 a_s2 a_s3 v ++ wC g a_nw nw) sz) := by
  refine Met_rwi (cc := cX5_blow) (maxL := 4) (by decide) rfl (Nat.le_of_ble_eq_true rfl) ?_
  intro P E Z Mi AR BE ME CO A Q C hK hA fin w ls hl
  have hl : lv_has ls 4 [(0, .ref (a_v 0)), (1, .int p1), (2, .int p2)] := hl
  unfold fX5_blow at hf
  refine lv_iconst (v := 4) C.1 C.2.1 (dk_at dkX5_blow 0 rfl) (by decide) ?_
  refine lv_iload_n C.1 C.2.1 (dk_at dkX5_blow 1 rfl) rfl (lv_at hl 1 rfl) ?_
  obtain ⟨r1, hq2, hf⟩ := bd1_at hf
  refine r_st (As := [.int 4, .int p1]) (rest := []) C (kX3_fits l 4 p1 r1 hq2) (cwS0 C (inr20 _ (List.mem_of_getElem? (i := 11) rfl)) mwX3_fits hdX3_fits ⟨Nat.le_of_ble_eq_true rfl, Nat.le_of_ble_eq_true rfl⟩) rfl hl.1 rfl (Nat.le_of_ble_eq_true rfl) ⟨Nat.zero_le _, Nat.zero_le _⟩ (dk_at dkX5_blow 2 rfl) ?_
  refine lv_if_eq (tgt := 16) C.1 C.2.1 (dk_at dkX5_blow 3 rfl) (by decide) (fun c3 => ?_) (fun c3 => ?_)
  · have hf := (if_pos c3).symm.trans hf
    refine lv_iconst (v := (-1)) C.1 C.2.1 (dk_at dkX5_blow 8 rfl) (by decide) ?_
    cases hf
    exact fin _ _ _ _ _ (dk_at dkX5_blow 9 rfl) rfl w
  · have hf := (if_neg c3).symm.trans hf
    refine lv_iconst (v := 5) C.1 C.2.1 (dk_at dkX5_blow 4 rfl) (by decide) ?_
    refine lv_iload_n C.1 C.2.1 (dk_at dkX5_blow 5 rfl) rfl (lv_at hl 2 rfl) ?_
    obtain ⟨r4, hq5, hf⟩ := bd1_at hf
    refine r_st (As := [.int 5, .int p2]) (rest := []) C (kX3_fits l 5 p2 r4 hq5) (cwS0 C (inr20 _ (List.mem_of_getElem? (i := 11) rfl)) mwX3_fits hdX3_fits ⟨Nat.le_of_ble_eq_true rfl, Nat.le_of_ble_eq_true rfl⟩) rfl hl.1 rfl (Nat.le_of_ble_eq_true rfl) ⟨Nat.zero_le _, Nat.zero_le _⟩ (dk_at dkX5_blow 6 rfl) ?_
    refine lv_if_ne (tgt := 18) C.1 C.2.1 (dk_at dkX5_blow 7 rfl) (by decide) (fun c6 => ?_) (fun c6 => ?_)
    · have hf := (if_neg c6).symm.trans hf
      refine lv_aload_n C.1 C.2.1 (dk_at dkX5_blow 10 rfl) rfl (lv_at hl 0 rfl) ?_
      refine r_get (v := .ref (a_nw 0)) C hK w.1 (fun w h => List.mem_cons_of_mem _ (inlX5 w h)) 0 rfl rfl 1 (by decide) (List.mem_cons_of_mem _ (inr1 _ (List.mem_of_getElem? (i := 19) rfl))) rfl (dk_at dkX5_blow 11 rfl) ?_
      refine r_get (v := .ref (a_nw 1)) C hK w.1 (fun w h => List.mem_cons_of_mem _ (inlX0 w h)) 5 rfl rfl 1 (by decide) (List.mem_cons_of_mem _ (inr20 _ (List.mem_of_getElem? (i := 10) rfl))) rfl (dk_at dkX5_blow 12 rfl) ?_
      refine lv_iload_n C.1 C.2.1 (dk_at dkX5_blow 13 rfl) rfl (lv_at hl 1 rfl) ?_
      obtain ⟨h7, hf⟩ := gd_at hf
      refine r_iald (k := p1.toNatClampNeg) (f := (cWi nw)) C hK w.1 6 rfl h7 rfl (dk_at dkX5_blow 14 rfl) ?_
      refine lv_topi (fun x8 ex8 => ?_)
      have hf := nm_at ex8 hf
      refine lv_istore_n (lv' := [(3, .int x8), (0, .ref (a_v 0)), (1, .int p1), (2, .int p2)]) C.1 C.2.1 (dk_at dkX5_blow 15 rfl) rfl hl (by decide) rfl (fun ls hl => ?_)
      refine lv_aload_n C.1 C.2.1 (dk_at dkX5_blow 16 rfl) rfl (lv_at hl 1 rfl) ?_
      refine r_get (v := .ref (a_nw 0)) C hK w.1 (fun w h => List.mem_cons_of_mem _ (inlX5 w h)) 0 rfl rfl 1 (by decide) (List.mem_cons_of_mem _ (inr1 _ (List.mem_of_getElem? (i := 19) rfl))) rfl (dk_at dkX5_blow 17 rfl) ?_
      refine r_get (v := .ref (a_nw 1)) C hK w.1 (fun w h => List.mem_cons_of_mem _ (inlX0 w h)) 5 rfl rfl 1 (by decide) (List.mem_cons_of_mem _ (inr20 _ (List.mem_of_getElem? (i := 10) rfl))) rfl (dk_at dkX5_blow 18 rfl) ?_
      refine lv_iload_n C.1 C.2.1 (dk_at dkX5_blow 19 rfl) rfl (lv_at hl 2 rfl) ?_
      refine lv_iload_n C.1 C.2.1 (dk_at dkX5_blow 20 rfl) rfl (lv_at hl 3 rfl) ?_
      obtain ⟨h9, hf⟩ := gd_at hf
      refine r_iast (k := p1.toNatClampNeg) (f := (cWi nw)) C hK w 6 rfl h9 rfl (dk_at dkX5_blow 21 rfl) (fun H locs w => ?_)
      obtain ⟨nw_10, enw_10⟩ : ∃ z : CT, z = cWi' nw (upd (cWi nw) p1.toNatClampNeg p2) := ⟨_, rfl⟩
      have hf := nm_at enw_10 hf
      have w : Wd g A Z.heap (wV g a_v a_rd a_nw a_tr a_da a_i0 a_i1 a_s0 a_s1 a_s2 a_s3 v ++ wC g a_nw nw_10) H locs := by rw [enw_10]; exact w
      refine lv_iload_n C.1 C.2.1 (dk_at dkX5_blow 22 rfl) rfl (lv_at hl 0 rfl) ?_
      cases hf
      exact fin _ _ _ _ _ (dk_at dkX5_blow 23 rfl) rfl w
    · have hf := (if_pos c6).symm.trans hf
      refine lv_iconst (v := (-1)) C.1 C.2.1 (dk_at dkX5_blow 8 rfl) (by decide) ?_
      cases hf
      exact fin _ _ _ _ _ (dk_at dkX5_blow 9 rfl) rfl w
-- X5.say
abbrev tbX5_say : List (Nat × Instr × Nat) := [(0, .aload_n 0, 1), (1, .getfield 19, 3), (4, .iload_n 1, 1), (5, .iload_n 2, 1), (6, .iload_n 3, 1), (7, .invokevirtual 136, 3), (10, .ireturn, 1)]
theorem dkX5_say : dk cX5_say tbX5_say := dk_of (by decide +kernel)
abbrev cdX5_say : Cond := Cond.code yX5_say cX5_say 4 (some .int)
abbrev rmX5_say : Room := { frames := 3, cells := 0, slots := 0, locals := 65 }
theorem mwX5_say : Cond.instanceMethod yX5_say ∈ wsL_law ∧ Cond.selects RX5 yX5_say yX5_say ∈ wsL_law ∧ Cond.initialized RX5 ∈ wsL_law ∧ cdX5_say ∈ wsL_law := ⟨inr22 _ (List.mem_of_getElem? (i := 12) rfl), inr22 _ (List.mem_of_getElem? (i := 13) rfl), inr1 _ (List.mem_of_getElem? (i := 2) rfl), inr22 _ (List.mem_of_getElem? (i := 14) rfl)⟩
theorem hdX5_say : yX5_say.cls = RX5 ∧ yX5_say.cls ≠ "java/lang/invoke/MethodHandle" ∧ yX5_say.cls ≠ "java/lang/invoke/VarHandle" ∧ (parseMethodDescriptor yX5_say.desc).map (fun d => d.parameters.length) = some 3 := by decide +kernel
set_option maxHeartbeats 4000000 in
set_option maxRecDepth 100000 in
theorem kX5_say (l : Launch) (g : Gx) (sz : Nat) (a_v a_rd a_nw a_tr a_da a_i0 a_i1 a_s0 a_s1 a_s2 a_s3 : Nat → Nat) (v : VT) (nw : CT) (p1 : Int32) (p2 : Int32) (p3 : Int32) (res : Int32) (nw_o : CT) (hf : fX5_say p1 p2 p3 v nw = some (res, nw_o)) : Met l yX5_say (cdX5_say :: wsL_law) rmX5_say (va_Pc [.ref (a_v 0), .int p1, .int p2, .int p3] (RWp g sz (wV g a_v a_rd a_nw a_tr a_da a_i0 a_i1 a_s0 a_s1 a_s2 a_s3 v ++ wC g a_nw nw))) (va_Qi (fun x (_ : Unit) => x = res) (fun _ => RWq g (va_A (wV g a_v a_rd a_nw a_tr a_da a_i0 a_i1 a_s0 a_s1 a_s2 a_s3 v ++ wC g a_nw nw) sz) (wV g a_v a_rd a_nw a_tr a_da a_i0 a_i1 a_s0 a_s1 a_s2 a_s3 v ++ wC g a_nw nw_o)) (va_A (wV g a_v a_rd a_nw a_tr a_da a_i0 a_i1 a_s0 a_s1 a_s2 a_s3 v ++ wC g a_nw nw) sz)) 0 0 (va_A (wV g a_v a_rd a_nw a_tr a_da a_i0 a_i1 a_s0 a_s1 a_s2 a_s3 v ++ wC g a_nw nw) sz) := by
  refine Met_rwi (cc := cX5_say) (maxL := 4) (by decide) rfl (Nat.le_of_ble_eq_true rfl) ?_
  intro P E Z Mi AR BE ME CO A Q C hK hA fin w ls hl
  have hl : lv_has ls 4 [(0, .ref (a_v 0)), (1, .int p1), (2, .int p2), (3, .int p3)] := hl
  unfold fX5_say at hf
  refine lv_aload_n C.1 C.2.1 (dk_at dkX5_say 0 rfl) rfl (lv_at hl 0 rfl) ?_
  refine r_get (v := .ref (a_nw 0)) C hK w.1 (fun w h => List.mem_cons_of_mem _ (inlX5 w h)) 0 rfl rfl 1 (by decide) (List.mem_cons_of_mem _ (inr1 _ (List.mem_of_getElem? (i := 19) rfl))) rfl (dk_at dkX5_say 1 rfl) ?_
  refine lv_iload_n C.1 C.2.1 (dk_at dkX5_say 2 rfl) rfl (lv_at hl 1 rfl) ?_
  refine lv_iload_n C.1 C.2.1 (dk_at dkX5_say 3 rfl) rfl (lv_at hl 2 rfl) ?_
  refine lv_iload_n C.1 C.2.1 (dk_at dkX5_say 4 rfl) rfl (lv_at hl 3 rfl) ?_
  obtain ⟨r1, nw_2, hq3, hf⟩ := bd2_at hf
  refine r_rwi (As := [.int p1, .int p2, .int p3]) (rest := []) (wr := wV g a_v a_rd a_nw a_tr a_da a_i0 a_i1 a_s0 a_s1 a_s2 a_s3 v) (ws' := wV g a_v a_rd a_nw a_tr a_da a_i0 a_i1 a_s0 a_s1 a_s2 a_s3 v ++ wC g a_nw nw_2) C (kX0_addPlain l g _ a_nw nw p1 p2 p3 r1 nw_2 hq3) (cwV0 C (inr22 _ (List.mem_of_getElem? (i := 15) rfl)) mwX0_addPlain hdX0_addPlain ⟨Nat.le_of_ble_eq_true rfl, Nat.le_of_ble_eq_true rfl⟩) hK w hA [5, 6, 7, 8, 9, 10, 11, 12, 13, 14, 15] [0, 1, 2, 3, 4] [0, 1, 2, 3, 4, 5, 6, 7, 8, 9, 10, 11, 12, 13, 14, 15] (by decide) rfl rfl (by decide) (by decide) rfl (by decide) rfl rfl rfl hl.1 rfl (Nat.le_of_ble_eq_true rfl) ⟨Nat.zero_le _, Nat.zero_le _⟩ (dk_at dkX5_say 5 rfl) (fun H locs w => ?_)
  cases hf
  exact fin _ _ _ _ _ (dk_at dkX5_say 6 rfl) rfl w
-- X5.lands
abbrev tbX5_lands : List (Nat × Instr × Nat) := [(0, .aload_n 0, 1), (1, .getfield 19, 3), (4, .iload_n 1, 1), (5, .invokevirtual 96, 3), (8, .ifCond .eq 12, 3), (11, .iload_n 2, 1), (12, .ifCond .lt 8, 3), (15, .iload_n 2, 1), (16, .iconst 2, 1), (17, .if_icmp .le 5, 3), (20, .iconst (-1), 1), (21, .ireturn, 1), (22, .aload_n 0, 1), (23, .getfield 29, 3), (26, .aload_n 0, 1), (27, .getfield 19, 3), (30, .invokevirtual 140, 3), (33, .iload_n 2, 1), (34, .ifCond .ne 16, 3), (37, .aload_n 0, 1), (38, .getfield 29, 3), (41, .getfield 143, 3), (44, .iload_n 1, 1), (45, .iaload, 1), (46, .invokestatic 145, 3), (49, .ireturn, 1), (50, .iload_n 2, 1), (51, .iconst 1, 1), (52, .if_icmp .ne 15, 3), (55, .aload_n 0, 1), (56, .getfield 29, 3), (59, .getfield 148, 3), (62, .iload_n 1, 1), (63, .iaload, 1), (64, .goto 12, 3), (67, .aload_n 0, 1), (68, .getfield 29, 3), (71, .getfield 151, 3), (74, .iload_n 1, 1), (75, .iaload, 1), (76, .ireturn, 1)]
theorem dkX5_lands : dk cX5_lands tbX5_lands := dk_of (by decide +kernel)
abbrev cdX5_lands : Cond := Cond.code yX5_lands cX5_lands 3 (some .int)
abbrev rmX5_lands : Room := { frames := 4, cells := 0, slots := 0, locals := 93 }
theorem mwX5_lands : Cond.instanceMethod yX5_lands ∈ wsL_law ∧ Cond.selects RX5 yX5_lands yX5_lands ∈ wsL_law ∧ Cond.initialized RX5 ∈ wsL_law ∧ cdX5_lands ∈ wsL_law := ⟨inr23 _ (List.mem_of_getElem? (i := 1) rfl), inr23 _ (List.mem_of_getElem? (i := 2) rfl), inr1 _ (List.mem_of_getElem? (i := 2) rfl), inr23 _ (List.mem_of_getElem? (i := 3) rfl)⟩
theorem hdX5_lands : yX5_lands.cls = RX5 ∧ yX5_lands.cls ≠ "java/lang/invoke/MethodHandle" ∧ yX5_lands.cls ≠ "java/lang/invoke/VarHandle" ∧ (parseMethodDescriptor yX5_lands.desc).map (fun d => d.parameters.length) = some 2 := by decide +kernel
set_option maxHeartbeats 4000000 in
set_option maxRecDepth 100000 in
theorem kX5_lands (l : Launch) (g : Gx) (sz : Nat) (a_v a_rd a_nw a_tr a_da a_i0 a_i1 a_s0 a_s1 a_s2 a_s3 : Nat → Nat) (v : VT) (nw : CT) (da : DT) (p1 : Int32) (p2 : Int32) (res : Int32) (da_o : DT) (hf : fX5_lands p1 p2 v nw da = some (res, da_o)) : Met l yX5_lands (cdX5_lands :: wsL_law) rmX5_lands (va_Pc [.ref (a_v 0), .int p1, .int p2] (RWp g sz (wV g a_v a_rd a_nw a_tr a_da a_i0 a_i1 a_s0 a_s1 a_s2 a_s3 v ++ wC g a_nw nw ++ wD g a_da da))) (va_Qi (fun x (_ : Unit) => x = res) (fun _ => RWq g (va_A (wV g a_v a_rd a_nw a_tr a_da a_i0 a_i1 a_s0 a_s1 a_s2 a_s3 v ++ wC g a_nw nw ++ wD g a_da da) sz) (wV g a_v a_rd a_nw a_tr a_da a_i0 a_i1 a_s0 a_s1 a_s2 a_s3 v ++ wC g a_nw nw ++ wD g a_da da_o)) (va_A (wV g a_v a_rd a_nw a_tr a_da a_i0 a_i1 a_s0 a_s1 a_s2 a_s3 v ++ wC g a_nw nw ++ wD g a_da da) sz)) 0 0 (va_A (wV g a_v a_rd a_nw a_tr a_da a_i0 a_i1 a_s0 a_s1 a_s2 a_s3 v ++ wC g a_nw nw ++ wD g a_da da) sz) := by
  refine Met_rwi (cc := cX5_lands) (maxL := 3) (by decide) rfl (Nat.le_of_ble_eq_true rfl) ?_
  intro P E Z Mi AR BE ME CO A Q C hK hA fin w ls hl
  have hl : lv_has ls 3 [(0, .ref (a_v 0)), (1, .int p1), (2, .int p2)] := hl
  unfold fX5_lands at hf
  refine lv_aload_n C.1 C.2.1 (dk_at dkX5_lands 0 rfl) rfl (lv_at hl 0 rfl) ?_
  refine r_get (v := .ref (a_nw 0)) C hK w.1 (fun w h => List.mem_cons_of_mem _ (inlX5 w h)) 0 rfl rfl 1 (by decide) (List.mem_cons_of_mem _ (inr1 _ (List.mem_of_getElem? (i := 19) rfl))) rfl (dk_at dkX5_lands 1 rfl) ?_
  refine lv_iload_n C.1 C.2.1 (dk_at dkX5_lands 2 rfl) rfl (lv_at hl 1 rfl) ?_
  obtain ⟨r1, hq2, hf⟩ := bd1_at hf
  refine r_roV (As := [.int p1]) (rest := []) C (kX0_isSaying l g a_nw nw p1 r1 hq2) (cwV0 C (inr17 _ (List.mem_of_getElem? (i := 22) rfl)) mwX0_isSaying hdX0_isSaying ⟨Nat.le_of_ble_eq_true rfl, Nat.le_of_ble_eq_true rfl⟩) hK (w.1.sub [5, 6, 7, 8, 9, 10, 11, 12, 13, 14, 15] rfl) rfl rfl rfl hl.1 rfl (Nat.le_of_ble_eq_true rfl) ⟨Nat.zero_le _, Nat.zero_le _⟩ (dk_at dkX5_lands 3 rfl) ?_
  refine lv_if_eq (tgt := 20) C.1 C.2.1 (dk_at dkX5_lands 4 rfl) (by decide) (fun c3 => ?_) (fun c3 => ?_)
  · have hf := (if_pos c3).symm.trans hf
    refine lv_iconst (v := (-1)) C.1 C.2.1 (dk_at dkX5_lands 10 rfl) (by decide) ?_
    cases hf
    exact fin _ _ _ _ _ (dk_at dkX5_lands 11 rfl) rfl w
  · have hf := (if_neg c3).symm.trans hf
    refine lv_iload_n C.1 C.2.1 (dk_at dkX5_lands 5 rfl) rfl (lv_at hl 2 rfl) ?_
    refine lv_if_lt (tgt := 20) C.1 C.2.1 (dk_at dkX5_lands 6 rfl) (by decide) (fun c4 => ?_) (fun c4 => ?_)
    · have hf := (if_pos c4).symm.trans hf
      refine lv_iconst (v := (-1)) C.1 C.2.1 (dk_at dkX5_lands 10 rfl) (by decide) ?_
      cases hf
      exact fin _ _ _ _ _ (dk_at dkX5_lands 11 rfl) rfl w
    · have hf := (if_neg c4).symm.trans hf
      refine lv_iload_n C.1 C.2.1 (dk_at dkX5_lands 7 rfl) rfl (lv_at hl 2 rfl) ?_
      refine lv_iconst (v := 2) C.1 C.2.1 (dk_at dkX5_lands 8 rfl) (by decide) ?_
      refine lv_icmp_le (tgt := 22) C.1 C.2.1 (dk_at dkX5_lands 9 rfl) (by decide) (fun c5 => ?_) (fun c5 => ?_)
      · have hf := (if_pos c5).symm.trans hf
        refine lv_aload_n C.1 C.2.1 (dk_at dkX5_lands 12 rfl) rfl (lv_at hl 0 rfl) ?_
        refine r_get (v := .ref (a_da 0)) C hK w.1 (fun w h => List.mem_cons_of_mem _ (inlX5 w h)) 0 rfl rfl 3 (by decide) (List.mem_cons_of_mem _ (inr2 _ (List.mem_of_getElem? (i := 0) rfl))) rfl (dk_at dkX5_lands 13 rfl) ?_
        refine lv_aload_n C.1 C.2.1 (dk_at dkX5_lands 14 rfl) rfl (lv_at hl 0 rfl) ?_
        refine r_get (v := .ref (a_nw 0)) C hK w.1 (fun w h => List.mem_cons_of_mem _ (inlX5 w h)) 0 rfl rfl 1 (by decide) (List.mem_cons_of_mem _ (inr1 _ (List.mem_of_getElem? (i := 19) rfl))) rfl (dk_at dkX5_lands 15 rfl) ?_
        obtain ⟨da_6, hq7, hf⟩ := bd1_at hf
        refine r_rwv (As := [.ref (a_nw 0)]) (rest := []) (wr := wV g a_v a_rd a_nw a_tr a_da a_i0 a_i1 a_s0 a_s1 a_s2 a_s3 v) (ws' := wV g a_v a_rd a_nw a_tr a_da a_i0 a_i1 a_s0 a_s1 a_s2 a_s3 v ++ wC g a_nw nw ++ wD g a_da da_6) C (kX1_pass l g _ a_da a_nw da nw da_6 hq7) (cwV0 C (inr23 _ (List.mem_of_getElem? (i := 7) rfl)) mwX1_pass hdX1_pass ⟨Nat.le_of_ble_eq_true rfl, Nat.le_of_ble_eq_true rfl⟩) hK w hA [16, 17, 18, 19, 20, 21, 5, 6, 7, 8, 9, 10, 11, 12, 13, 14, 15] [0, 1, 2, 3, 4] [0, 1, 2, 3, 4, 11, 12, 13, 14, 15, 16, 17, 18, 19, 20, 21, 5, 6, 7, 8, 9, 10] (by decide) rfl rfl (by decide) (by decide) rfl (by decide) rfl rfl rfl hl.1 rfl (Nat.le_of_ble_eq_true rfl) ⟨Nat.zero_le _, Nat.zero_le _⟩ (dk_at dkX5_lands 16 rfl) (fun H locs w => ?_)
        refine lv_iload_n C.1 C.2.1 (dk_at dkX5_lands 17 rfl) rfl (lv_at hl 2 rfl) ?_
        refine lv_if_ne (tgt := 50) C.1 C.2.1 (dk_at dkX5_lands 18 rfl) (by decide) (fun c8 => ?_) (fun c8 => ?_)
        · have hf := (if_neg c8).symm.trans hf
          refine lv_iload_n C.1 C.2.1 (dk_at dkX5_lands 26 rfl) rfl (lv_at hl 2 rfl) ?_
          refine lv_iconst (v := 1) C.1 C.2.1 (dk_at dkX5_lands 27 rfl) (by decide) ?_
          refine lv_icmp_ne (tgt := 67) C.1 C.2.1 (dk_at dkX5_lands 28 rfl) (by decide) (fun c9 => ?_) (fun c9 => ?_)
          · have hf := (if_neg c9).symm.trans hf
            refine lv_aload_n C.1 C.2.1 (dk_at dkX5_lands 35 rfl) rfl (lv_at hl 0 rfl) ?_
            refine r_get (v := .ref (a_da 0)) C hK w.1 (fun w h => List.mem_cons_of_mem _ (inlX5 w h)) 0 rfl rfl 3 (by decide) (List.mem_cons_of_mem _ (inr2 _ (List.mem_of_getElem? (i := 0) rfl))) rfl (dk_at dkX5_lands 36 rfl) ?_
            refine r_get (v := .ref (a_da 3)) C hK w.1 (fun w h => List.mem_cons_of_mem _ (inlX1 w h)) 16 rfl rfl 2 (by decide) (List.mem_cons_of_mem _ (inr23 _ (List.mem_of_getElem? (i := 6) rfl))) rfl (dk_at dkX5_lands 37 rfl) ?_
            refine lv_iload_n C.1 C.2.1 (dk_at dkX5_lands 38 rfl) rfl (lv_at hl 1 rfl) ?_
            obtain ⟨h10, hf⟩ := gd_at hf
            refine r_iald (k := p1.toNatClampNeg) (f := (dSt da_6)) C hK w.1 19 rfl h10 rfl (dk_at dkX5_lands 39 rfl) ?_
            refine lv_topi (fun x11 ex11 => ?_)
            have hf := nm_at ex11 hf
            cases hf
            exact fin _ _ _ _ _ (dk_at dkX5_lands 40 rfl) rfl w
          · have hf := (if_pos c9).symm.trans hf
            refine lv_aload_n C.1 C.2.1 (dk_at dkX5_lands 29 rfl) rfl (lv_at hl 0 rfl) ?_
            refine r_get (v := .ref (a_da 0)) C hK w.1 (fun w h => List.mem_cons_of_mem _ (inlX5 w h)) 0 rfl rfl 3 (by decide) (List.mem_cons_of_mem _ (inr2 _ (List.mem_of_getElem? (i := 0) rfl))) rfl (dk_at dkX5_lands 30 rfl) ?_
            refine r_get (v := .ref (a_da 2)) C hK w.1 (fun w h => List.mem_cons_of_mem _ (inlX1 w h)) 16 rfl rfl 1 (by decide) (List.mem_cons_of_mem _ (inr23 _ (List.mem_of_getElem? (i := 5) rfl))) rfl (dk_at dkX5_lands 31 rfl) ?_
            refine lv_iload_n C.1 C.2.1 (dk_at dkX5_lands 32 rfl) rfl (lv_at hl 1 rfl) ?_
            obtain ⟨h12, hf⟩ := gd_at hf
            refine r_iald (k := p1.toNatClampNeg) (f := (dHo da_6)) C hK w.1 18 rfl h12 rfl (dk_at dkX5_lands 33 rfl) ?_
            refine lv_topi (fun x13 ex13 => ?_)
            have hf := nm_at ex13 hf
            refine lv_goto (tgt := 76) C.1 C.2.1 (dk_at dkX5_lands 34 rfl) (by decide) ?_
            cases hf
            exact fin _ _ _ _ _ (dk_at dkX5_lands 40 rfl) rfl w
        · have hf := (if_pos c8).symm.trans hf
          refine lv_aload_n C.1 C.2.1 (dk_at dkX5_lands 19 rfl) rfl (lv_at hl 0 rfl) ?_
          refine r_get (v := .ref (a_da 0)) C hK w.1 (fun w h => List.mem_cons_of_mem _ (inlX5 w h)) 0 rfl rfl 3 (by decide) (List.mem_cons_of_mem _ (inr2 _ (List.mem_of_getElem? (i := 0) rfl))) rfl (dk_at dkX5_lands 20 rfl) ?_
          refine r_get (v := .ref (a_da 1)) C hK w.1 (fun w h => List.mem_cons_of_mem _ (inlX1 w h)) 16 rfl rfl 0 (by decide) (List.mem_cons_of_mem _ (inr23 _ (List.mem_of_getElem? (i := 4) rfl))) rfl (dk_at dkX5_lands 21 rfl) ?_
          refine lv_iload_n C.1 C.2.1 (dk_at dkX5_lands 22 rfl) rfl (lv_at hl 1 rfl) ?_
          obtain ⟨h14, hf⟩ := gd_at hf
          refine r_iald (k := p1.toNatClampNeg) (f := (dPl da_6)) C hK w.1 17 rfl h14 rfl (dk_at dkX5_lands 23 rfl) ?_
          refine lv_topi (fun x15 ex15 => ?_)
          have hf := nm_at ex15 hf
          obtain ⟨r16, hq17, hf⟩ := bd1_at hf
          refine r_st (As := [.int x15]) (rest := []) C (kX3_cellOf l x15 r16 hq17) (cwS0 C (inr24 _ (List.mem_of_getElem? (i := 21) rfl)) mwX3_cellOf hdX3_cellOf ⟨Nat.le_of_ble_eq_true rfl, Nat.le_of_ble_eq_true rfl⟩) rfl hl.1 rfl (Nat.le_of_ble_eq_true rfl) ⟨Nat.zero_le _, Nat.zero_le _⟩ (dk_at dkX5_lands 24 rfl) ?_
          cases hf
          exact fin _ _ _ _ _ (dk_at dkX5_lands 25 rfl) rfl w
      · have hf := (if_neg c5).symm.trans hf
        refine lv_iconst (v := (-1)) C.1 C.2.1 (dk_at dkX5_lands 10 rfl) (by decide) ?_
        cases hf
        exact fin _ _ _ _ _ (dk_at dkX5_lands 11 rfl) rfl w
-- X5.hears
abbrev tbX5_hears : List (Nat × Instr × Nat) := [(0, .aload_n 0, 1), (1, .getfield 19, 3), (4, .iload_n 1, 1), (5, .invokevirtual 110, 3), (8, .ifCond .ne 5, 3), (11, .iconst (-1), 1), (12, .ireturn, 1), (13, .aload_n 0, 1), (14, .getfield 29, 3), (17, .aload_n 0, 1), (18, .getfield 19, 3), (21, .invokevirtual 140, 3), (24, .aload_n 0, 1), (25, .getfield 29, 3), (28, .aload_n 0, 1), (29, .getfield 19, 3), (32, .getfield 113, 3), (35, .iload_n 1, 1), (36, .iaload, 1), (37, .invokestatic 119, 3), (40, .invokevirtual 154, 3), (43, .ireturn, 1)]
theorem dkX5_hears : dk cX5_hears tbX5_hears := dk_of (by decide +kernel)
abbrev cdX5_hears : Cond := Cond.code yX5_hears cX5_hears 2 (some .int)
abbrev rmX5_hears : Room := { frames := 4, cells := 0, slots := 0, locals := 93 }
theorem mwX5_hears : Cond.instanceMethod yX5_hears ∈ wsL_law ∧ Cond.selects RX5 yX5_hears yX5_hears ∈ wsL_law ∧ Cond.initialized RX5 ∈ wsL_law ∧ cdX5_hears ∈ wsL_law := ⟨inr25 _ (List.mem_of_getElem? (i := 22) rfl), inr25 _ (List.mem_of_getElem? (i := 23) rfl), inr1 _ (List.mem_of_getElem? (i := 2) rfl), inr26 _ (List.mem_of_getElem? (i := 0) rfl)⟩
theorem hdX5_hears : yX5_hears.cls = RX5 ∧ yX5_hears.cls ≠ "java/lang/invoke/MethodHandle" ∧ yX5_hears.cls ≠ "java/lang/invoke/VarHandle" ∧ (parseMethodDescriptor yX5_hears.desc).map (fun d => d.parameters.length) = some 1 := by decide +kernel
set_option maxHeartbeats 4000000 in
set_option maxRecDepth 100000 in
theorem kX5_hears (l : Launch) (g : Gx) (sz : Nat) (a_v a_rd a_nw a_tr a_da a_i0 a_i1 a_s0 a_s1 a_s2 a_s3 : Nat → Nat) (v : VT) (nw : CT) (da : DT) (p1 : Int32) (res : Int32) (da_o : DT) (hf : fX5_hears p1 v nw da = some (res, da_o)) : Met l yX5_hears (cdX5_hears :: wsL_law) rmX5_hears (va_Pc [.ref (a_v 0), .int p1] (RWp g sz (wV g a_v a_rd a_nw a_tr a_da a_i0 a_i1 a_s0 a_s1 a_s2 a_s3 v ++ wC g a_nw nw ++ wD g a_da da))) (va_Qi (fun x (_ : Unit) => x = res) (fun _ => RWq g (va_A (wV g a_v a_rd a_nw a_tr a_da a_i0 a_i1 a_s0 a_s1 a_s2 a_s3 v ++ wC g a_nw nw ++ wD g a_da da) sz) (wV g a_v a_rd a_nw a_tr a_da a_i0 a_i1 a_s0 a_s1 a_s2 a_s3 v ++ wC g a_nw nw ++ wD g a_da da_o)) (va_A (wV g a_v a_rd a_nw a_tr a_da a_i0 a_i1 a_s0 a_s1 a_s2 a_s3 v ++ wC g a_nw nw ++ wD g a_da da) sz)) 0 0 (va_A (wV g a_v a_rd a_nw a_tr a_da a_i0 a_i1 a_s0 a_s1 a_s2 a_s3 v ++ wC g a_nw nw ++ wD g a_da da) sz) := by
  refine Met_rwi (cc := cX5_hears) (maxL := 2) (by decide) rfl (Nat.le_of_ble_eq_true rfl) ?_
  intro P E Z Mi AR BE ME CO A Q C hK hA fin w ls hl
  have hl : lv_has ls 2 [(0, .ref (a_v 0)), (1, .int p1)] := hl
  unfold fX5_hears at hf
  refine lv_aload_n C.1 C.2.1 (dk_at dkX5_hears 0 rfl) rfl (lv_at hl 0 rfl) ?_
  refine r_get (v := .ref (a_nw 0)) C hK w.1 (fun w h => List.mem_cons_of_mem _ (inlX5 w h)) 0 rfl rfl 1 (by decide) (List.mem_cons_of_mem _ (inr1 _ (List.mem_of_getElem? (i := 19) rfl))) rfl (dk_at dkX5_hears 1 rfl) ?_
  refine lv_iload_n C.1 C.2.1 (dk_at dkX5_hears 2 rfl) rfl (lv_at hl 1 rfl) ?_
  obtain ⟨r1, hq2, hf⟩ := bd1_at hf
  refine r_roV (As := [.int p1]) (rest := []) C (kX0_isHearer l g a_nw nw p1 r1 hq2) (cwV0 C (inr19 _ (List.mem_of_getElem? (i := 3) rfl)) mwX0_isHearer hdX0_isHearer ⟨Nat.le_of_ble_eq_true rfl, Nat.le_of_ble_eq_true rfl⟩) hK (w.1.sub [5, 6, 7, 8, 9, 10, 11, 12, 13, 14, 15] rfl) rfl rfl rfl hl.1 rfl (Nat.le_of_ble_eq_true rfl) ⟨Nat.zero_le _, Nat.zero_le _⟩ (dk_at dkX5_hears 3 rfl) ?_
  refine lv_if_ne (tgt := 13) C.1 C.2.1 (dk_at dkX5_hears 4 rfl) (by decide) (fun c3 => ?_) (fun c3 => ?_)
  · have hf := (if_neg c3).symm.trans hf
    refine lv_aload_n C.1 C.2.1 (dk_at dkX5_hears 7 rfl) rfl (lv_at hl 0 rfl) ?_
    refine r_get (v := .ref (a_da 0)) C hK w.1 (fun w h => List.mem_cons_of_mem _ (inlX5 w h)) 0 rfl rfl 3 (by decide) (List.mem_cons_of_mem _ (inr2 _ (List.mem_of_getElem? (i := 0) rfl))) rfl (dk_at dkX5_hears 8 rfl) ?_
    refine lv_aload_n C.1 C.2.1 (dk_at dkX5_hears 9 rfl) rfl (lv_at hl 0 rfl) ?_
    refine r_get (v := .ref (a_nw 0)) C hK w.1 (fun w h => List.mem_cons_of_mem _ (inlX5 w h)) 0 rfl rfl 1 (by decide) (List.mem_cons_of_mem _ (inr1 _ (List.mem_of_getElem? (i := 19) rfl))) rfl (dk_at dkX5_hears 10 rfl) ?_
    obtain ⟨da_4, hq5, hf⟩ := bd1_at hf
    refine r_rwv (As := [.ref (a_nw 0)]) (rest := []) (wr := wV g a_v a_rd a_nw a_tr a_da a_i0 a_i1 a_s0 a_s1 a_s2 a_s3 v) (ws' := wV g a_v a_rd a_nw a_tr a_da a_i0 a_i1 a_s0 a_s1 a_s2 a_s3 v ++ wC g a_nw nw ++ wD g a_da da_4) C (kX1_pass l g _ a_da a_nw da nw da_4 hq5) (cwV0 C (inr23 _ (List.mem_of_getElem? (i := 7) rfl)) mwX1_pass hdX1_pass ⟨Nat.le_of_ble_eq_true rfl, Nat.le_of_ble_eq_true rfl⟩) hK w hA [16, 17, 18, 19, 20, 21, 5, 6, 7, 8, 9, 10, 11, 12, 13, 14, 15] [0, 1, 2, 3, 4] [0, 1, 2, 3, 4, 11, 12, 13, 14, 15, 16, 17, 18, 19, 20, 21, 5, 6, 7, 8, 9, 10] (by decide) rfl rfl (by decide) (by decide) rfl (by decide) rfl rfl rfl hl.1 rfl (Nat.le_of_ble_eq_true rfl) ⟨Nat.zero_le _, Nat.zero_le _⟩ (dk_at dkX5_hears 11 rfl) (fun H locs w => ?_)
    refine lv_aload_n C.1 C.2.1 (dk_at dkX5_hears 12 rfl) rfl (lv_at hl 0 rfl) ?_
    refine r_get (v := .ref (a_da 0)) C hK w.1 (fun w h => List.mem_cons_of_mem _ (inlX5 w h)) 0 rfl rfl 3 (by decide) (List.mem_cons_of_mem _ (inr2 _ (List.mem_of_getElem? (i := 0) rfl))) rfl (dk_at dkX5_hears 13 rfl) ?_
    refine lv_aload_n C.1 C.2.1 (dk_at dkX5_hears 14 rfl) rfl (lv_at hl 0 rfl) ?_
    refine r_get (v := .ref (a_nw 0)) C hK w.1 (fun w h => List.mem_cons_of_mem _ (inlX5 w h)) 0 rfl rfl 1 (by decide) (List.mem_cons_of_mem _ (inr1 _ (List.mem_of_getElem? (i := 19) rfl))) rfl (dk_at dkX5_hears 15 rfl) ?_
    refine r_get (v := .ref (a_nw 8)) C hK w.1 (fun w h => List.mem_cons_of_mem _ (inlX0 w h)) 5 rfl rfl 4 (by decide) (List.mem_cons_of_mem _ (inr19 _ (List.mem_of_getElem? (i := 2) rfl))) rfl (dk_at dkX5_hears 16 rfl) ?_
    refine lv_iload_n C.1 C.2.1 (dk_at dkX5_hears 17 rfl) rfl (lv_at hl 1 rfl) ?_
    obtain ⟨h6, hf⟩ := gd_at hf
    refine r_iald (k := p1.toNatClampNeg) (f := (cAt nw)) C hK w.1 13 rfl h6 rfl (dk_at dkX5_hears 18 rfl) ?_
    refine lv_topi (fun x7 ex7 => ?_)
    have hf := nm_at ex7 hf
    obtain ⟨r8, hq9, hf⟩ := bd1_at hf
    refine r_st (As := [.int x7]) (rest := [.ref (a_da 0)]) C (kX3_placeOf l x7 r8 hq9) (cwS0 C (inr19 _ (List.mem_of_getElem? (i := 20) rfl)) mwX3_placeOf hdX3_placeOf ⟨Nat.le_of_ble_eq_true rfl, Nat.le_of_ble_eq_true rfl⟩) rfl hl.1 rfl (Nat.le_of_ble_eq_true rfl) ⟨Nat.zero_le _, Nat.zero_le _⟩ (dk_at dkX5_hears 19 rfl) ?_
    obtain ⟨r10, hq11, hf⟩ := bd1_at hf
    refine r_roV (As := [.int r8]) (rest := []) C (kX1_landedIn l g a_da da_4 r8 r10 hq11) (cwV0 C (inr26 _ (List.mem_of_getElem? (i := 1) rfl)) mwX1_landedIn hdX1_landedIn ⟨Nat.le_of_ble_eq_true rfl, Nat.le_of_ble_eq_true rfl⟩) hK (w.1.sub [16, 17, 18, 19, 20, 21] rfl) rfl rfl rfl hl.1 rfl (Nat.le_of_ble_eq_true rfl) ⟨Nat.zero_le _, Nat.zero_le _⟩ (dk_at dkX5_hears 20 rfl) ?_
    cases hf
    exact fin _ _ _ _ _ (dk_at dkX5_hears 21 rfl) rfl w
  · have hf := (if_pos c3).symm.trans hf
    refine lv_iconst (v := (-1)) C.1 C.2.1 (dk_at dkX5_hears 5 rfl) (by decide) ?_
    cases hf
    exact fin _ _ _ _ _ (dk_at dkX5_hears 6 rfl) rfl w
-- X5.field
abbrev tbX5_field : List (Nat × Instr × Nat) := [(0, .iload_n 1, 1), (1, .invokestatic 116, 3), (4, .ifCond .eq 12, 3), (7, .iload_n 2, 1), (8, .ifCond .lt 8, 3), (11, .iload_n 2, 1), (12, .iconst 1, 1), (13, .if_icmp .le 5, 3), (16, .iconst (-1), 1), (17, .ireturn, 1), (18, .aload_n 0, 1), (19, .getfield 29, 3), (22, .aload_n 0, 1), (23, .getfield 19, 3), (26, .invokevirtual 140, 3), (29, .iload_n 1, 1), (30, .invokestatic 119, 3), (33, .istore_n 3, 1), (34, .iload_n 2, 1), (35, .ifCond .ne 12, 3), (38, .aload_n 0, 1), (39, .getfield 29, 3), (42, .iload_n 3, 1), (43, .invokevirtual 154, 3), (46, .ireturn, 1), (47, .aload_n 0, 1), (48, .getfield 29, 3), (51, .getfield 157, 3), (54, .iload_n 3, 1), (55, .invokestatic 123, 3), (58, .ifCond .eq 7, 3), (61, .iconst 1, 1), (62, .goto 4, 3), (65, .iconst 0, 1), (66, .ireturn, 1)]
theorem dkX5_field : dk cX5_field tbX5_field := dk_of (by decide +kernel)
abbrev cdX5_field : Cond := Cond.code yX5_field cX5_field 4 (some .int)
abbrev rmX5_field : Room := { frames := 4, cells := 0, slots := 0, locals := 93 }
theorem mwX5_field : Cond.instanceMethod yX5_field ∈ wsL_law ∧ Cond.selects RX5 yX5_field yX5_field ∈ wsL_law ∧ Cond.initialized RX5 ∈ wsL_law ∧ cdX5_field ∈ wsL_law := ⟨inr26 _ (List.mem_of_getElem? (i := 14) rfl), inr26 _ (List.mem_of_getElem? (i := 15) rfl), inr1 _ (List.mem_of_getElem? (i := 2) rfl), inr26 _ (List.mem_of_getElem? (i := 16) rfl)⟩
theorem hdX5_field : yX5_field.cls = RX5 ∧ yX5_field.cls ≠ "java/lang/invoke/MethodHandle" ∧ yX5_field.cls ≠ "java/lang/invoke/VarHandle" ∧ (parseMethodDescriptor yX5_field.desc).map (fun d => d.parameters.length) = some 2 := by decide +kernel
set_option maxHeartbeats 4000000 in
set_option maxRecDepth 100000 in
theorem kX5_field (l : Launch) (g : Gx) (sz : Nat) (a_v a_rd a_nw a_tr a_da a_i0 a_i1 a_s0 a_s1 a_s2 a_s3 : Nat → Nat) (v : VT) (nw : CT) (da : DT) (p1 : Int32) (p2 : Int32) (res : Int32) (da_o : DT) (hf : fX5_field p1 p2 v nw da = some (res, da_o)) : Met l yX5_field (cdX5_field :: wsL_law) rmX5_field (va_Pc [.ref (a_v 0), .int p1, .int p2] (RWp g sz (wV g a_v a_rd a_nw a_tr a_da a_i0 a_i1 a_s0 a_s1 a_s2 a_s3 v ++ wC g a_nw nw ++ wD g a_da da))) (va_Qi (fun x (_ : Unit) => x = res) (fun _ => RWq g (va_A (wV g a_v a_rd a_nw a_tr a_da a_i0 a_i1 a_s0 a_s1 a_s2 a_s3 v ++ wC g a_nw nw ++ wD g a_da da) sz) (wV g a_v a_rd a_nw a_tr a_da a_i0 a_i1 a_s0 a_s1 a_s2 a_s3 v ++ wC g a_nw nw ++ wD g a_da da_o)) (va_A (wV g a_v a_rd a_nw a_tr a_da a_i0 a_i1 a_s0 a_s1 a_s2 a_s3 v ++ wC g a_nw nw ++ wD g a_da da) sz)) 0 0 (va_A (wV g a_v a_rd a_nw a_tr a_da a_i0 a_i1 a_s0 a_s1 a_s2 a_s3 v ++ wC g a_nw nw ++ wD g a_da da) sz) := by
  refine Met_rwi (cc := cX5_field) (maxL := 4) (by decide) rfl (Nat.le_of_ble_eq_true rfl) ?_
  intro P E Z Mi AR BE ME CO A Q C hK hA fin w ls hl
  have hl : lv_has ls 4 [(0, .ref (a_v 0)), (1, .int p1), (2, .int p2)] := hl
  unfold fX5_field at hf
  refine lv_iload_n C.1 C.2.1 (dk_at dkX5_field 0 rfl) rfl (lv_at hl 1 rfl) ?_
  obtain ⟨r1, hq2, hf⟩ := bd1_at hf
  refine r_st (As := [.int p1]) (rest := []) C (kX3_isCell l p1 r1 hq2) (cwS0 C (inr19 _ (List.mem_of_getElem? (i := 19) rfl)) mwX3_isCell hdX3_isCell ⟨Nat.le_of_ble_eq_true rfl, Nat.le_of_ble_eq_true rfl⟩) rfl hl.1 rfl (Nat.le_of_ble_eq_true rfl) ⟨Nat.zero_le _, Nat.zero_le _⟩ (dk_at dkX5_field 1 rfl) ?_
  refine lv_if_eq (tgt := 16) C.1 C.2.1 (dk_at dkX5_field 2 rfl) (by decide) (fun c3 => ?_) (fun c3 => ?_)
  · have hf := (if_pos c3).symm.trans hf
    refine lv_iconst (v := (-1)) C.1 C.2.1 (dk_at dkX5_field 8 rfl) (by decide) ?_
    cases hf
    exact fin _ _ _ _ _ (dk_at dkX5_field 9 rfl) rfl w
  · have hf := (if_neg c3).symm.trans hf
    refine lv_iload_n C.1 C.2.1 (dk_at dkX5_field 3 rfl) rfl (lv_at hl 2 rfl) ?_
    refine lv_if_lt (tgt := 16) C.1 C.2.1 (dk_at dkX5_field 4 rfl) (by decide) (fun c4 => ?_) (fun c4 => ?_)
    · have hf := (if_pos c4).symm.trans hf
      refine lv_iconst (v := (-1)) C.1 C.2.1 (dk_at dkX5_field 8 rfl) (by decide) ?_
      cases hf
      exact fin _ _ _ _ _ (dk_at dkX5_field 9 rfl) rfl w
    · have hf := (if_neg c4).symm.trans hf
      refine lv_iload_n C.1 C.2.1 (dk_at dkX5_field 5 rfl) rfl (lv_at hl 2 rfl) ?_
      refine lv_iconst (v := 1) C.1 C.2.1 (dk_at dkX5_field 6 rfl) (by decide) ?_
      refine lv_icmp_le (tgt := 18) C.1 C.2.1 (dk_at dkX5_field 7 rfl) (by decide) (fun c5 => ?_) (fun c5 => ?_)
      · have hf := (if_pos c5).symm.trans hf
        refine lv_aload_n C.1 C.2.1 (dk_at dkX5_field 10 rfl) rfl (lv_at hl 0 rfl) ?_
        refine r_get (v := .ref (a_da 0)) C hK w.1 (fun w h => List.mem_cons_of_mem _ (inlX5 w h)) 0 rfl rfl 3 (by decide) (List.mem_cons_of_mem _ (inr2 _ (List.mem_of_getElem? (i := 0) rfl))) rfl (dk_at dkX5_field 11 rfl) ?_
        refine lv_aload_n C.1 C.2.1 (dk_at dkX5_field 12 rfl) rfl (lv_at hl 0 rfl) ?_
        refine r_get (v := .ref (a_nw 0)) C hK w.1 (fun w h => List.mem_cons_of_mem _ (inlX5 w h)) 0 rfl rfl 1 (by decide) (List.mem_cons_of_mem _ (inr1 _ (List.mem_of_getElem? (i := 19) rfl))) rfl (dk_at dkX5_field 13 rfl) ?_
        obtain ⟨da_6, hq7, hf⟩ := bd1_at hf
        refine r_rwv (As := [.ref (a_nw 0)]) (rest := []) (wr := wV g a_v a_rd a_nw a_tr a_da a_i0 a_i1 a_s0 a_s1 a_s2 a_s3 v) (ws' := wV g a_v a_rd a_nw a_tr a_da a_i0 a_i1 a_s0 a_s1 a_s2 a_s3 v ++ wC g a_nw nw ++ wD g a_da da_6) C (kX1_pass l g _ a_da a_nw da nw da_6 hq7) (cwV0 C (inr23 _ (List.mem_of_getElem? (i := 7) rfl)) mwX1_pass hdX1_pass ⟨Nat.le_of_ble_eq_true rfl, Nat.le_of_ble_eq_true rfl⟩) hK w hA [16, 17, 18, 19, 20, 21, 5, 6, 7, 8, 9, 10, 11, 12, 13, 14, 15] [0, 1, 2, 3, 4] [0, 1, 2, 3, 4, 11, 12, 13, 14, 15, 16, 17, 18, 19, 20, 21, 5, 6, 7, 8, 9, 10] (by decide) rfl rfl (by decide) (by decide) rfl (by decide) rfl rfl rfl hl.1 rfl (Nat.le_of_ble_eq_true rfl) ⟨Nat.zero_le _, Nat.zero_le _⟩ (dk_at dkX5_field 14 rfl) (fun H locs w => ?_)
        refine lv_iload_n C.1 C.2.1 (dk_at dkX5_field 15 rfl) rfl (lv_at hl 1 rfl) ?_
        obtain ⟨r8, hq9, hf⟩ := bd1_at hf
        refine r_st (As := [.int p1]) (rest := []) C (kX3_placeOf l p1 r8 hq9) (cwS0 C (inr19 _ (List.mem_of_getElem? (i := 20) rfl)) mwX3_placeOf hdX3_placeOf ⟨Nat.le_of_ble_eq_true rfl, Nat.le_of_ble_eq_true rfl⟩) rfl hl.1 rfl (Nat.le_of_ble_eq_true rfl) ⟨Nat.zero_le _, Nat.zero_le _⟩ (dk_at dkX5_field 16 rfl) ?_
        refine lv_istore_n (lv' := [(3, .int r8), (0, .ref (a_v 0)), (1, .int p1), (2, .int p2)]) C.1 C.2.1 (dk_at dkX5_field 17 rfl) rfl hl (by decide) rfl (fun ls hl => ?_)
        refine lv_iload_n C.1 C.2.1 (dk_at dkX5_field 18 rfl) rfl (lv_at hl 3 rfl) ?_
        refine lv_if_ne (tgt := 47) C.1 C.2.1 (dk_at dkX5_field 19 rfl) (by decide) (fun c10 => ?_) (fun c10 => ?_)
        · have hf := (if_neg c10).symm.trans hf
          refine lv_aload_n C.1 C.2.1 (dk_at dkX5_field 25 rfl) rfl (lv_at hl 1 rfl) ?_
          refine r_get (v := .ref (a_da 0)) C hK w.1 (fun w h => List.mem_cons_of_mem _ (inlX5 w h)) 0 rfl rfl 3 (by decide) (List.mem_cons_of_mem _ (inr2 _ (List.mem_of_getElem? (i := 0) rfl))) rfl (dk_at dkX5_field 26 rfl) ?_
          refine r_get (v := .long (dW da_6)) C hK w.1 (fun w h => List.mem_cons_of_mem _ (inlX1 w h)) 16 rfl rfl 3 (by decide) (List.mem_cons_of_mem _ (inr26 _ (List.mem_of_getElem? (i := 17) rfl))) rfl (dk_at dkX5_field 27 rfl) ?_
          refine lv_iload_n C.1 C.2.1 (dk_at dkX5_field 28 rfl) rfl (lv_at hl 0 rfl) ?_
          obtain ⟨r11, hq12, hf⟩ := bd1_at hf
          refine r_st (As := [.long (dW da_6), .int r8]) (rest := []) C (kX3_has l (dW da_6) r8 r11 hq12) (cwS0 C (inr19 _ (List.mem_of_getElem? (i := 21) rfl)) mwX3_has hdX3_has ⟨Nat.le_of_ble_eq_true rfl, Nat.le_of_ble_eq_true rfl⟩) rfl hl.1 rfl (Nat.le_of_ble_eq_true rfl) ⟨Nat.zero_le _, Nat.zero_le _⟩ (dk_at dkX5_field 29 rfl) ?_
          refine lv_if_eq (tgt := 65) C.1 C.2.1 (dk_at dkX5_field 30 rfl) (by decide) (fun c13 => ?_) (fun c13 => ?_)
          · have hf := (if_pos c13).symm.trans hf
            refine lv_iconst (v := 0) C.1 C.2.1 (dk_at dkX5_field 33 rfl) (by decide) ?_
            cases hf
            exact fin _ _ _ _ _ (dk_at dkX5_field 34 rfl) rfl w
          · have hf := (if_neg c13).symm.trans hf
            refine lv_iconst (v := 1) C.1 C.2.1 (dk_at dkX5_field 31 rfl) (by decide) ?_
            refine lv_goto (tgt := 66) C.1 C.2.1 (dk_at dkX5_field 32 rfl) (by decide) ?_
            cases hf
            exact fin _ _ _ _ _ (dk_at dkX5_field 34 rfl) rfl w
        · have hf := (if_pos c10).symm.trans hf
          refine lv_aload_n C.1 C.2.1 (dk_at dkX5_field 20 rfl) rfl (lv_at hl 1 rfl) ?_
          refine r_get (v := .ref (a_da 0)) C hK w.1 (fun w h => List.mem_cons_of_mem _ (inlX5 w h)) 0 rfl rfl 3 (by decide) (List.mem_cons_of_mem _ (inr2 _ (List.mem_of_getElem? (i := 0) rfl))) rfl (dk_at dkX5_field 21 rfl) ?_
          refine lv_iload_n C.1 C.2.1 (dk_at dkX5_field 22 rfl) rfl (lv_at hl 0 rfl) ?_
          obtain ⟨r14, hq15, hf⟩ := bd1_at hf
          refine r_roV (As := [.int r8]) (rest := []) C (kX1_landedIn l g a_da da_6 r8 r14 hq15) (cwV0 C (inr26 _ (List.mem_of_getElem? (i := 1) rfl)) mwX1_landedIn hdX1_landedIn ⟨Nat.le_of_ble_eq_true rfl, Nat.le_of_ble_eq_true rfl⟩) hK (w.1.sub [16, 17, 18, 19, 20, 21] rfl) rfl rfl rfl hl.1 rfl (Nat.le_of_ble_eq_true rfl) ⟨Nat.zero_le _, Nat.zero_le _⟩ (dk_at dkX5_field 23 rfl) ?_
          cases hf
          exact fin _ _ _ _ _ (dk_at dkX5_field 24 rfl) rfl w
      · have hf := (if_neg c5).symm.trans hf
        refine lv_iconst (v := (-1)) C.1 C.2.1 (dk_at dkX5_field 8 rfl) (by decide) ?_
        cases hf
        exact fin _ _ _ _ _ (dk_at dkX5_field 9 rfl) rfl w
-- X5.sum
abbrev tbX5_sum : List (Nat × Instr × Nat) := [(0, .iload_n 1, 1), (1, .ifCond .lt 8, 3), (4, .iload_n 1, 1), (5, .iconst 3, 1), (6, .if_icmp .le 5, 3), (9, .iconst (-1), 1), (10, .ireturn, 1), (11, .aload_n 0, 1), (12, .getfield 29, 3), (15, .aload_n 0, 1), (16, .getfield 19, 3), (19, .invokevirtual 140, 3), (22, .iload_n 1, 1), (23, .tableswitch 56 0 2 #[25, 37, 48], 25), (48, .aload_n 0, 1), (49, .getfield 29, 3), (52, .aload_n 0, 1), (53, .getfield 19, 3), (56, .invokevirtual 158, 3), (59, .ireturn, 1), (60, .aload_n 0, 1), (61, .getfield 29, 3), (64, .getfield 157, 3), (67, .invokestatic 87, 3), (70, .ireturn, 1), (71, .aload_n 0, 1), (72, .getfield 29, 3), (75, .invokevirtual 162, 3), (78, .ireturn, 1), (79, .aload_n 0, 1), (80, .getfield 29, 3), (83, .invokevirtual 165, 3), (86, .ireturn, 1)]
theorem dkX5_sum : dk cX5_sum tbX5_sum := dk_of (by decide +kernel)
abbrev cdX5_sum : Cond := Cond.code yX5_sum cX5_sum 2 (some .int)
abbrev rmX5_sum : Room := { frames := 4, cells := 0, slots := 0, locals := 93 }
theorem mwX5_sum : Cond.instanceMethod yX5_sum ∈ wsL_law ∧ Cond.selects RX5 yX5_sum yX5_sum ∈ wsL_law ∧ Cond.initialized RX5 ∈ wsL_law ∧ cdX5_sum ∈ wsL_law := ⟨inr27 _ (List.mem_of_getElem? (i := 2) rfl), inr27 _ (List.mem_of_getElem? (i := 3) rfl), inr1 _ (List.mem_of_getElem? (i := 2) rfl), inr27 _ (List.mem_of_getElem? (i := 4) rfl)⟩
theorem hdX5_sum : yX5_sum.cls = RX5 ∧ yX5_sum.cls ≠ "java/lang/invoke/MethodHandle" ∧ yX5_sum.cls ≠ "java/lang/invoke/VarHandle" ∧ (parseMethodDescriptor yX5_sum.desc).map (fun d => d.parameters.length) = some 1 := by decide +kernel
set_option maxHeartbeats 4000000 in
set_option maxRecDepth 100000 in
theorem kX5_sum (l : Launch) (g : Gx) (sz : Nat) (a_v a_rd a_nw a_tr a_da a_i0 a_i1 a_s0 a_s1 a_s2 a_s3 : Nat → Nat) (v : VT) (nw : CT) (da : DT) (p1 : Int32) (res : Int32) (da_o : DT) (hf : fX5_sum p1 v nw da = some (res, da_o)) : Met l yX5_sum (cdX5_sum :: wsL_law) rmX5_sum (va_Pc [.ref (a_v 0), .int p1] (RWp g sz (wV g a_v a_rd a_nw a_tr a_da a_i0 a_i1 a_s0 a_s1 a_s2 a_s3 v ++ wC g a_nw nw ++ wD g a_da da))) (va_Qi (fun x (_ : Unit) => x = res) (fun _ => RWq g (va_A (wV g a_v a_rd a_nw a_tr a_da a_i0 a_i1 a_s0 a_s1 a_s2 a_s3 v ++ wC g a_nw nw ++ wD g a_da da) sz) (wV g a_v a_rd a_nw a_tr a_da a_i0 a_i1 a_s0 a_s1 a_s2 a_s3 v ++ wC g a_nw nw ++ wD g a_da da_o)) (va_A (wV g a_v a_rd a_nw a_tr a_da a_i0 a_i1 a_s0 a_s1 a_s2 a_s3 v ++ wC g a_nw nw ++ wD g a_da da) sz)) 0 0 (va_A (wV g a_v a_rd a_nw a_tr a_da a_i0 a_i1 a_s0 a_s1 a_s2 a_s3 v ++ wC g a_nw nw ++ wD g a_da da) sz) := by
  refine Met_rwi (cc := cX5_sum) (maxL := 2) (by decide) rfl (Nat.le_of_ble_eq_true rfl) ?_
  intro P E Z Mi AR BE ME CO A Q C hK hA fin w ls hl
  have hl : lv_has ls 2 [(0, .ref (a_v 0)), (1, .int p1)] := hl
  unfold fX5_sum at hf
  refine lv_iload_n C.1 C.2.1 (dk_at dkX5_sum 0 rfl) rfl (lv_at hl 1 rfl) ?_
  refine lv_if_lt (tgt := 9) C.1 C.2.1 (dk_at dkX5_sum 1 rfl) (by decide) (fun c1 => ?_) (fun c1 => ?_)
  · have hf := (if_pos c1).symm.trans hf
    refine lv_iconst (v := (-1)) C.1 C.2.1 (dk_at dkX5_sum 5 rfl) (by decide) ?_
    cases hf
    exact fin _ _ _ _ _ (dk_at dkX5_sum 6 rfl) rfl w
  · have hf := (if_neg c1).symm.trans hf
    refine lv_iload_n C.1 C.2.1 (dk_at dkX5_sum 2 rfl) rfl (lv_at hl 1 rfl) ?_
    refine lv_iconst (v := 3) C.1 C.2.1 (dk_at dkX5_sum 3 rfl) (by decide) ?_
    refine lv_icmp_le (tgt := 11) C.1 C.2.1 (dk_at dkX5_sum 4 rfl) (by decide) (fun c2 => ?_) (fun c2 => ?_)
    · have hf := (if_pos c2).symm.trans hf
      refine lv_aload_n C.1 C.2.1 (dk_at dkX5_sum 7 rfl) rfl (lv_at hl 0 rfl) ?_
      refine r_get (v := .ref (a_da 0)) C hK w.1 (fun w h => List.mem_cons_of_mem _ (inlX5 w h)) 0 rfl rfl 3 (by decide) (List.mem_cons_of_mem _ (inr2 _ (List.mem_of_getElem? (i := 0) rfl))) rfl (dk_at dkX5_sum 8 rfl) ?_
      refine lv_aload_n C.1 C.2.1 (dk_at dkX5_sum 9 rfl) rfl (lv_at hl 0 rfl) ?_
      refine r_get (v := .ref (a_nw 0)) C hK w.1 (fun w h => List.mem_cons_of_mem _ (inlX5 w h)) 0 rfl rfl 1 (by decide) (List.mem_cons_of_mem _ (inr1 _ (List.mem_of_getElem? (i := 19) rfl))) rfl (dk_at dkX5_sum 10 rfl) ?_
      obtain ⟨da_3, hq4, hf⟩ := bd1_at hf
      refine r_rwv (As := [.ref (a_nw 0)]) (rest := []) (wr := wV g a_v a_rd a_nw a_tr a_da a_i0 a_i1 a_s0 a_s1 a_s2 a_s3 v) (ws' := wV g a_v a_rd a_nw a_tr a_da a_i0 a_i1 a_s0 a_s1 a_s2 a_s3 v ++ wC g a_nw nw ++ wD g a_da da_3) C (kX1_pass l g _ a_da a_nw da nw da_3 hq4) (cwV0 C (inr23 _ (List.mem_of_getElem? (i := 7) rfl)) mwX1_pass hdX1_pass ⟨Nat.le_of_ble_eq_true rfl, Nat.le_of_ble_eq_true rfl⟩) hK w hA [16, 17, 18, 19, 20, 21, 5, 6, 7, 8, 9, 10, 11, 12, 13, 14, 15] [0, 1, 2, 3, 4] [0, 1, 2, 3, 4, 11, 12, 13, 14, 15, 16, 17, 18, 19, 20, 21, 5, 6, 7, 8, 9, 10] (by decide) rfl rfl (by decide) (by decide) rfl (by decide) rfl rfl rfl hl.1 rfl (Nat.le_of_ble_eq_true rfl) ⟨Nat.zero_le _, Nat.zero_le _⟩ (dk_at dkX5_sum 11 rfl) (fun H locs w => ?_)
      refine lv_iload_n C.1 C.2.1 (dk_at dkX5_sum 12 rfl) rfl (lv_at hl 1 rfl) ?_
      by_cases c5 : p1 = 0
      · have hf := (if_pos c5).symm.trans hf
        refine lv_tableIn (tgt := 48) C.1 C.2.1 (dk_at dkX5_sum 13 rfl) (by rw [c5]; decide) (by rw [c5]; decide) (by rw [c5]; rfl) (by decide) ?_
        refine lv_aload_n C.1 C.2.1 (dk_at dkX5_sum 14 rfl) rfl (lv_at hl 0 rfl) ?_
        refine r_get (v := .ref (a_da 0)) C hK w.1 (fun w h => List.mem_cons_of_mem _ (inlX5 w h)) 0 rfl rfl 3 (by decide) (List.mem_cons_of_mem _ (inr2 _ (List.mem_of_getElem? (i := 0) rfl))) rfl (dk_at dkX5_sum 15 rfl) ?_
        refine lv_aload_n C.1 C.2.1 (dk_at dkX5_sum 16 rfl) rfl (lv_at hl 0 rfl) ?_
        refine r_get (v := .ref (a_nw 0)) C hK w.1 (fun w h => List.mem_cons_of_mem _ (inlX5 w h)) 0 rfl rfl 1 (by decide) (List.mem_cons_of_mem _ (inr1 _ (List.mem_of_getElem? (i := 19) rfl))) rfl (dk_at dkX5_sum 17 rfl) ?_
        obtain ⟨r6, hq7, hf⟩ := bd1_at hf
        refine r_roV (As := [.ref (a_nw 0)]) (rest := []) C (kX1_heard l g a_da a_nw da_3 nw r6 hq7) (cwV0 C (inr27 _ (List.mem_of_getElem? (i := 5) rfl)) mwX1_heard hdX1_heard ⟨Nat.le_of_ble_eq_true rfl, Nat.le_of_ble_eq_true rfl⟩) hK (w.1.sub [16, 17, 18, 19, 20, 21, 5, 6, 7, 8, 9, 10, 11, 12, 13, 14, 15] rfl) rfl rfl rfl hl.1 rfl (Nat.le_of_ble_eq_true rfl) ⟨Nat.zero_le _, Nat.zero_le _⟩ (dk_at dkX5_sum 18 rfl) ?_
        cases hf
        exact fin _ _ _ _ _ (dk_at dkX5_sum 19 rfl) rfl w
      have hf := (if_neg c5).symm.trans hf
      by_cases c8 : p1 = 1
      · have hf := (if_pos c8).symm.trans hf
        refine lv_tableIn (tgt := 60) C.1 C.2.1 (dk_at dkX5_sum 13 rfl) (by rw [c8]; decide) (by rw [c8]; decide) (by rw [c8]; rfl) (by decide) ?_
        refine lv_aload_n C.1 C.2.1 (dk_at dkX5_sum 20 rfl) rfl (lv_at hl 0 rfl) ?_
        refine r_get (v := .ref (a_da 0)) C hK w.1 (fun w h => List.mem_cons_of_mem _ (inlX5 w h)) 0 rfl rfl 3 (by decide) (List.mem_cons_of_mem _ (inr2 _ (List.mem_of_getElem? (i := 0) rfl))) rfl (dk_at dkX5_sum 21 rfl) ?_
        refine r_get (v := .long (dW da_3)) C hK w.1 (fun w h => List.mem_cons_of_mem _ (inlX1 w h)) 16 rfl rfl 3 (by decide) (List.mem_cons_of_mem _ (inr26 _ (List.mem_of_getElem? (i := 17) rfl))) rfl (dk_at dkX5_sum 22 rfl) ?_
        obtain ⟨r9, hq10, hf⟩ := bd1_at hf
        refine r_st (As := [.long (dW da_3)]) (rest := []) C (kJ13_bitCount_95d88 l (dW da_3) r9 hq10) (cwS0 C (inr16 _ (List.mem_of_getElem? (i := 18) rfl)) mwJ13_bitCount_95d88 hdJ13_bitCount_95d88 ⟨Nat.le_of_ble_eq_true rfl, Nat.le_of_ble_eq_true rfl⟩) rfl hl.1 rfl (Nat.le_of_ble_eq_true rfl) ⟨Nat.zero_le _, Nat.zero_le _⟩ (dk_at dkX5_sum 23 rfl) ?_
        cases hf
        exact fin _ _ _ _ _ (dk_at dkX5_sum 24 rfl) rfl w
      have hf := (if_neg c8).symm.trans hf
      by_cases c11 : p1 = 2
      · have hf := (if_pos c11).symm.trans hf
        refine lv_tableIn (tgt := 71) C.1 C.2.1 (dk_at dkX5_sum 13 rfl) (by rw [c11]; decide) (by rw [c11]; decide) (by rw [c11]; rfl) (by decide) ?_
        refine lv_aload_n C.1 C.2.1 (dk_at dkX5_sum 25 rfl) rfl (lv_at hl 0 rfl) ?_
        refine r_get (v := .ref (a_da 0)) C hK w.1 (fun w h => List.mem_cons_of_mem _ (inlX5 w h)) 0 rfl rfl 3 (by decide) (List.mem_cons_of_mem _ (inr2 _ (List.mem_of_getElem? (i := 0) rfl))) rfl (dk_at dkX5_sum 26 rfl) ?_
        obtain ⟨r12, hq13, hf⟩ := bd1_at hf
        refine r_roV (As := []) (rest := []) C (kX1_allSteps l g a_da da_3 r12 hq13) (cwV0 C (inr27 _ (List.mem_of_getElem? (i := 14) rfl)) mwX1_allSteps hdX1_allSteps ⟨Nat.le_of_ble_eq_true rfl, Nat.le_of_ble_eq_true rfl⟩) hK (w.1.sub [16, 17, 18, 19, 20, 21] rfl) rfl rfl rfl hl.1 rfl (Nat.le_of_ble_eq_true rfl) ⟨Nat.zero_le _, Nat.zero_le _⟩ (dk_at dkX5_sum 27 rfl) ?_
        cases hf
        exact fin _ _ _ _ _ (dk_at dkX5_sum 28 rfl) rfl w
      have hf := (if_neg c11).symm.trans hf
      have c5n : p1.toInt ≠ 0 := fun q => c5 (by rw [← Int32.ofInt_toInt p1, q]; rfl)
      have c8n : p1.toInt ≠ 1 := fun q => c8 (by rw [← Int32.ofInt_toInt p1, q]; rfl)
      have c11n : p1.toInt ≠ 2 := fun q => c11 (by rw [← Int32.ofInt_toInt p1, q]; rfl)
      refine lv_tableOut (tgt := 79) C.1 C.2.1 (dk_at dkX5_sum 13 rfl) (by omega) (by decide) ?_
      refine lv_aload_n C.1 C.2.1 (dk_at dkX5_sum 29 rfl) rfl (lv_at hl 0 rfl) ?_
      refine r_get (v := .ref (a_da 0)) C hK w.1 (fun w h => List.mem_cons_of_mem _ (inlX5 w h)) 0 rfl rfl 3 (by decide) (List.mem_cons_of_mem _ (inr2 _ (List.mem_of_getElem? (i := 0) rfl))) rfl (dk_at dkX5_sum 30 rfl) ?_
      obtain ⟨r14, hq15, hf⟩ := bd1_at hf
      refine r_roV (As := []) (rest := []) C (kX1_hoursOfLanding l g a_da da_3 r14 hq15) (cwV0 C (inr27 _ (List.mem_of_getElem? (i := 18) rfl)) mwX1_hoursOfLanding hdX1_hoursOfLanding ⟨Nat.le_of_ble_eq_true rfl, Nat.le_of_ble_eq_true rfl⟩) hK (w.1.sub [16, 17, 18, 19, 20, 21] rfl) rfl rfl rfl hl.1 rfl (Nat.le_of_ble_eq_true rfl) ⟨Nat.zero_le _, Nat.zero_le _⟩ (dk_at dkX5_sum 31 rfl) ?_
      cases hf
      exact fin _ _ _ _ _ (dk_at dkX5_sum 32 rfl) rfl w
    · have hf := (if_neg c2).symm.trans hf
      refine lv_iconst (v := (-1)) C.1 C.2.1 (dk_at dkX5_sum 5 rfl) (by decide) ?_
      cases hf
      exact fin _ _ _ _ _ (dk_at dkX5_sum 6 rfl) rfl w
-- X5.most
abbrev tbX5_most : List (Nat × Instr × Nat) := [(0, .iload_n 1, 1), (1, .ifCond .lt 8, 3), (4, .iload_n 1, 1), (5, .iconst 1, 1), (6, .if_icmp .le 5, 3), (9, .iconst (-1), 1), (10, .ireturn, 1), (11, .aload_n 0, 1), (12, .getfield 29, 3), (15, .aload_n 0, 1), (16, .getfield 19, 3), (19, .invokevirtual 140, 3), (22, .bipush (-4), 2), (24, .istore_n 2, 1), (25, .bipush (-4), 2), (27, .istore_n 3, 1), (28, .iconst 0, 1), (29, .istore 4, 2), (31, .iload 4, 2), (33, .bipush 64, 2), (35, .if_icmp .ge 53, 3), (38, .aload_n 0, 1), (39, .getfield 29, 3), (42, .iload 4, 2), (44, .invokevirtual 154, 3), (47, .invokestatic 168, 3), (50, .istore 5, 2), (52, .aload_n 0, 1), (53, .getfield 19, 3), (56, .getfield 83, 3), (59, .iload 4, 2), (61, .invokestatic 123, 3), (64, .ifCond .ne 18, 3), (67, .iload 5, 2), (69, .iload_n 3, 1), (70, .if_icmp .le 12, 3), (73, .iload 4, 2), (75, .invokestatic 145, 3), (78, .istore_n 2, 1), (79, .iload 5, 2), (81, .istore_n 3, 1), (82, .iinc 4 1, 3), (85, .goto (-54), 3), (88, .iload_n 1, 1), (89, .ifCond .ne 7, 3), (92, .iload_n 2, 1), (93, .goto 4, 3), (96, .iload_n 3, 1), (97, .ireturn, 1)]
theorem dkX5_most : dk cX5_most tbX5_most := dk_of (by decide +kernel)
abbrev cdX5_most : Cond := Cond.code yX5_most cX5_most 6 (some .int)
abbrev rmX5_most : Room := { frames := 4, cells := 0, slots := 0, locals := 93 }
theorem mwX5_most : Cond.instanceMethod yX5_most ∈ wsL_law ∧ Cond.selects RX5 yX5_most yX5_most ∈ wsL_law ∧ Cond.initialized RX5 ∈ wsL_law ∧ cdX5_most ∈ wsL_law := ⟨inr28 _ (List.mem_of_getElem? (i := 11) rfl), inr28 _ (List.mem_of_getElem? (i := 12) rfl), inr1 _ (List.mem_of_getElem? (i := 2) rfl), inr28 _ (List.mem_of_getElem? (i := 13) rfl)⟩
theorem hdX5_most : yX5_most.cls = RX5 ∧ yX5_most.cls ≠ "java/lang/invoke/MethodHandle" ∧ yX5_most.cls ≠ "java/lang/invoke/VarHandle" ∧ (parseMethodDescriptor yX5_most.desc).map (fun d => d.parameters.length) = some 1 := by decide +kernel
set_option maxHeartbeats 4000000 in
set_option maxRecDepth 100000 in
theorem kX5_most (l : Launch) (g : Gx) (sz : Nat) (a_v a_rd a_nw a_tr a_da a_i0 a_i1 a_s0 a_s1 a_s2 a_s3 : Nat → Nat) (v : VT) (nw : CT) (da : DT) (p1 : Int32) (res : Int32) (da_o : DT) (hf : fX5_most p1 v nw da = some (res, da_o)) : Met l yX5_most (cdX5_most :: wsL_law) rmX5_most (va_Pc [.ref (a_v 0), .int p1] (RWp g sz (wV g a_v a_rd a_nw a_tr a_da a_i0 a_i1 a_s0 a_s1 a_s2 a_s3 v ++ wC g a_nw nw ++ wD g a_da da))) (va_Qi (fun x (_ : Unit) => x = res) (fun _ => RWq g (va_A (wV g a_v a_rd a_nw a_tr a_da a_i0 a_i1 a_s0 a_s1 a_s2 a_s3 v ++ wC g a_nw nw ++ wD g a_da da) sz) (wV g a_v a_rd a_nw a_tr a_da a_i0 a_i1 a_s0 a_s1 a_s2 a_s3 v ++ wC g a_nw nw ++ wD g a_da da_o)) (va_A (wV g a_v a_rd a_nw a_tr a_da a_i0 a_i1 a_s0 a_s1 a_s2 a_s3 v ++ wC g a_nw nw ++ wD g a_da da) sz)) 0 0 (va_A (wV g a_v a_rd a_nw a_tr a_da a_i0 a_i1 a_s0 a_s1 a_s2 a_s3 v ++ wC g a_nw nw ++ wD g a_da da) sz) := by
  refine Met_rwi (cc := cX5_most) (maxL := 6) (by decide) rfl (Nat.le_of_ble_eq_true rfl) ?_
  intro P E Z Mi AR BE ME CO A Q C hK hA fin w ls hl
  have hl : lv_has ls 6 [(0, .ref (a_v 0)), (1, .int p1)] := hl
  unfold fX5_most at hf
  refine lv_iload_n C.1 C.2.1 (dk_at dkX5_most 0 rfl) rfl (lv_at hl 1 rfl) ?_
  refine lv_if_lt (tgt := 9) C.1 C.2.1 (dk_at dkX5_most 1 rfl) (by decide) (fun c1 => ?_) (fun c1 => ?_)
  · have hf := (if_pos c1).symm.trans hf
    refine lv_iconst (v := (-1)) C.1 C.2.1 (dk_at dkX5_most 5 rfl) (by decide) ?_
    cases hf
    exact fin _ _ _ _ _ (dk_at dkX5_most 6 rfl) rfl w
  · have hf := (if_neg c1).symm.trans hf
    refine lv_iload_n C.1 C.2.1 (dk_at dkX5_most 2 rfl) rfl (lv_at hl 1 rfl) ?_
    refine lv_iconst (v := 1) C.1 C.2.1 (dk_at dkX5_most 3 rfl) (by decide) ?_
    refine lv_icmp_le (tgt := 11) C.1 C.2.1 (dk_at dkX5_most 4 rfl) (by decide) (fun c2 => ?_) (fun c2 => ?_)
    · have hf := (if_pos c2).symm.trans hf
      refine lv_aload_n C.1 C.2.1 (dk_at dkX5_most 7 rfl) rfl (lv_at hl 0 rfl) ?_
      refine r_get (v := .ref (a_da 0)) C hK w.1 (fun w h => List.mem_cons_of_mem _ (inlX5 w h)) 0 rfl rfl 3 (by decide) (List.mem_cons_of_mem _ (inr2 _ (List.mem_of_getElem? (i := 0) rfl))) rfl (dk_at dkX5_most 8 rfl) ?_
      refine lv_aload_n C.1 C.2.1 (dk_at dkX5_most 9 rfl) rfl (lv_at hl 0 rfl) ?_
      refine r_get (v := .ref (a_nw 0)) C hK w.1 (fun w h => List.mem_cons_of_mem _ (inlX5 w h)) 0 rfl rfl 1 (by decide) (List.mem_cons_of_mem _ (inr1 _ (List.mem_of_getElem? (i := 19) rfl))) rfl (dk_at dkX5_most 10 rfl) ?_
      obtain ⟨da_3, hq4, hf⟩ := bd1_at hf
      refine r_rwv (As := [.ref (a_nw 0)]) (rest := []) (wr := wV g a_v a_rd a_nw a_tr a_da a_i0 a_i1 a_s0 a_s1 a_s2 a_s3 v) (ws' := wV g a_v a_rd a_nw a_tr a_da a_i0 a_i1 a_s0 a_s1 a_s2 a_s3 v ++ wC g a_nw nw ++ wD g a_da da_3) C (kX1_pass l g _ a_da a_nw da nw da_3 hq4) (cwV0 C (inr23 _ (List.mem_of_getElem? (i := 7) rfl)) mwX1_pass hdX1_pass ⟨Nat.le_of_ble_eq_true rfl, Nat.le_of_ble_eq_true rfl⟩) hK w hA [16, 17, 18, 19, 20, 21, 5, 6, 7, 8, 9, 10, 11, 12, 13, 14, 15] [0, 1, 2, 3, 4] [0, 1, 2, 3, 4, 11, 12, 13, 14, 15, 16, 17, 18, 19, 20, 21, 5, 6, 7, 8, 9, 10] (by decide) rfl rfl (by decide) (by decide) rfl (by decide) rfl rfl rfl hl.1 rfl (Nat.le_of_ble_eq_true rfl) ⟨Nat.zero_le _, Nat.zero_le _⟩ (dk_at dkX5_most 11 rfl) (fun H locs w => ?_)
      refine lv_bipush (v := (-4)) C.1 C.2.1 (dk_at dkX5_most 12 rfl) (by decide) ?_
      refine lv_istore_n (lv' := [(2, .int (-4)), (0, .ref (a_v 0)), (1, .int p1)]) C.1 C.2.1 (dk_at dkX5_most 13 rfl) rfl hl (by decide) rfl (fun ls hl => ?_)
      refine lv_bipush (v := (-4)) C.1 C.2.1 (dk_at dkX5_most 14 rfl) (by decide) ?_
      refine lv_istore_n (lv' := [(3, .int (-4)), (2, .int (-4)), (0, .ref (a_v 0)), (1, .int p1)]) C.1 C.2.1 (dk_at dkX5_most 15 rfl) rfl hl (by decide) rfl (fun ls hl => ?_)
      refine lv_iconst (v := 0) C.1 C.2.1 (dk_at dkX5_most 16 rfl) (by decide) ?_
      refine lv_istore (lv' := [(4, .int 0), (3, .int (-4)), (2, .int (-4)), (0, .ref (a_v 0)), (1, .int p1)]) C.1 C.2.1 (dk_at dkX5_most 17 rfl) hl (by decide) rfl (fun ls hl => ?_)
      have L8 : ∀ (K : Int32 → Int32 → Int32 → Option (Int32 × DT)), (∀ (v5 : Int32) (v6 : Int32) (v7 : Int32) (H : Heap) (locs : List Loc) (ls : Array Slot), Wd g A Z.heap (wV g a_v a_rd a_nw a_tr a_da a_i0 a_i1 a_s0 a_s1 a_s2 a_s3 v ++ wC g a_nw nw ++ wD g a_da da_3) H locs → lv_has ls 6 [(3, .int v6), (2, .int v7), (1, .int p1)] → K v5 v6 v7 = some (res, da_o) → W P l E rmX5_most Z Mi AR BE ME CO H locs 0 0 Q (F0 Mi 88 ls [])) → ∀ (n : Nat), ∀ (v5 : Int32) (v6 : Int32) (v7 : Int32) (H : Heap) (locs : List Loc) (ls : Array Slot), Wd g A Z.heap (wV g a_v a_rd a_nw a_tr a_da a_i0 a_i1 a_s0 a_s1 a_s2 a_s3 v ++ wC g a_nw nw ++ wD g a_da da_3) H locs → lv_has ls 6 [(4, .int v5), (3, .int v6), (2, .int v7), (0, .ref (a_v 0)), (1, .int p1)] → fX5_most_L31 nw da_3 K n v5 v6 v7 = some (res, da_o) → W P l E rmX5_most Z Mi AR BE ME CO H locs 0 0 Q (F0 Mi 31 ls []) := by
        intro K hKe n
        induction n with
        | zero => intro v5 v6 v7 H locs ls w hl hf; cases hf
        | succ n ih =>
          intro v5 v6 v7 H locs ls w hl hf
          rw [fX5_most_L31] at hf
          refine lv_iload C.1 C.2.1 (dk_at dkX5_most 18 rfl) (lv_at hl 0 rfl) ?_
          refine lv_bipush (v := 64) C.1 C.2.1 (dk_at dkX5_most 19 rfl) (by decide) ?_
          refine lv_icmp_ge (tgt := 88) C.1 C.2.1 (dk_at dkX5_most 20 rfl) (by decide) (fun c9 => ?_) (fun c9 => ?_)
          · have hf := (if_pos c9).symm.trans hf
            exact hKe v5 v6 v7 _ _ _ w (lv_sub hl [1, 2, 4] rfl) hf
          · have hf := (if_neg c9).symm.trans hf
            refine lv_aload_n C.1 C.2.1 (dk_at dkX5_most 21 rfl) rfl (lv_at hl 3 rfl) ?_
            refine r_get (v := .ref (a_da 0)) C hK w.1 (fun w h => List.mem_cons_of_mem _ (inlX5 w h)) 0 rfl rfl 3 (by decide) (List.mem_cons_of_mem _ (inr2 _ (List.mem_of_getElem? (i := 0) rfl))) rfl (dk_at dkX5_most 22 rfl) ?_
            refine lv_iload C.1 C.2.1 (dk_at dkX5_most 23 rfl) (lv_at hl 0 rfl) ?_
            obtain ⟨r10, hq11, hf⟩ := bd1_at hf
            refine r_roV (As := [.int v5]) (rest := []) C (kX1_landedIn l g a_da da_3 v5 r10 hq11) (cwV0 C (inr26 _ (List.mem_of_getElem? (i := 1) rfl)) mwX1_landedIn hdX1_landedIn ⟨Nat.le_of_ble_eq_true rfl, Nat.le_of_ble_eq_true rfl⟩) hK (w.1.sub [16, 17, 18, 19, 20, 21] rfl) rfl rfl rfl hl.1 rfl (Nat.le_of_ble_eq_true rfl) ⟨Nat.zero_le _, Nat.zero_le _⟩ (dk_at dkX5_most 24 rfl) ?_
            obtain ⟨r12, hq13, hf⟩ := bd1_at hf
            refine r_st (As := [.int r10]) (rest := []) C (kJ6_bitCount_0f7a4 l r10 r12 hq13) (cwS0 C (inr28 _ (List.mem_of_getElem? (i := 14) rfl)) mwJ6_bitCount_0f7a4 hdJ6_bitCount_0f7a4 ⟨Nat.le_of_ble_eq_true rfl, Nat.le_of_ble_eq_true rfl⟩) rfl hl.1 rfl (Nat.le_of_ble_eq_true rfl) ⟨Nat.zero_le _, Nat.zero_le _⟩ (dk_at dkX5_most 25 rfl) ?_
            refine lv_istore (lv' := [(5, .int r12), (4, .int v5), (3, .int v6), (2, .int v7), (0, .ref (a_v 0)), (1, .int p1)]) C.1 C.2.1 (dk_at dkX5_most 26 rfl) hl (by decide) rfl (fun ls hl => ?_)
            refine lv_aload_n C.1 C.2.1 (dk_at dkX5_most 27 rfl) rfl (lv_at hl 4 rfl) ?_
            refine r_get (v := .ref (a_nw 0)) C hK w.1 (fun w h => List.mem_cons_of_mem _ (inlX5 w h)) 0 rfl rfl 1 (by decide) (List.mem_cons_of_mem _ (inr1 _ (List.mem_of_getElem? (i := 19) rfl))) rfl (dk_at dkX5_most 28 rfl) ?_
            refine r_get (v := .long (cW nw)) C hK w.1 (fun w h => List.mem_cons_of_mem _ (inlX0 w h)) 5 rfl rfl 0 (by decide) (List.mem_cons_of_mem _ (inr16 _ (List.mem_of_getElem? (i := 17) rfl))) rfl (dk_at dkX5_most 29 rfl) ?_
            refine lv_iload C.1 C.2.1 (dk_at dkX5_most 30 rfl) (lv_at hl 1 rfl) ?_
            obtain ⟨r14, hq15, hf⟩ := bd1_at hf
            refine r_st (As := [.long (cW nw), .int v5]) (rest := []) C (kX3_has l (cW nw) v5 r14 hq15) (cwS0 C (inr19 _ (List.mem_of_getElem? (i := 21) rfl)) mwX3_has hdX3_has ⟨Nat.le_of_ble_eq_true rfl, Nat.le_of_ble_eq_true rfl⟩) rfl hl.1 rfl (Nat.le_of_ble_eq_true rfl) ⟨Nat.zero_le _, Nat.zero_le _⟩ (dk_at dkX5_most 31 rfl) ?_
            refine lv_if_ne (tgt := 82) C.1 C.2.1 (dk_at dkX5_most 32 rfl) (by decide) (fun c16 => ?_) (fun c16 => ?_)
            · have hf := (if_neg c16).symm.trans hf
              obtain ⟨x17, ex17⟩ : ∃ z : Int32, z = v5 + 1 := ⟨_, rfl⟩
              have hf := nm_at ex17 hf
              refine lv_iinc (v := x17) (lv' := [(4, .int x17), (5, .int r12), (3, .int v6), (2, .int v7), (0, .ref (a_v 0)), (1, .int p1)]) C.1 C.2.1 (dk_at dkX5_most 41 rfl) hl (k := 1) rfl (by rw [ex17]; rfl) (by decide) rfl (fun ls hl => ?_)
              refine lv_goto (tgt := 31) C.1 C.2.1 (dk_at dkX5_most 42 rfl) (by decide) ?_
              exact ih x17 v6 v7 _ _ _ w (lv_sub hl [0, 2, 3, 4, 5] rfl) hf
            · have hf := (if_pos c16).symm.trans hf
              refine lv_iload C.1 C.2.1 (dk_at dkX5_most 33 rfl) (lv_at hl 0 rfl) ?_
              refine lv_iload_n C.1 C.2.1 (dk_at dkX5_most 34 rfl) rfl (lv_at hl 2 rfl) ?_
              refine lv_icmp_le (tgt := 82) C.1 C.2.1 (dk_at dkX5_most 35 rfl) (by decide) (fun c18 => ?_) (fun c18 => ?_)
              · have hf := (if_pos c18).symm.trans hf
                obtain ⟨x19, ex19⟩ : ∃ z : Int32, z = v5 + 1 := ⟨_, rfl⟩
                have hf := nm_at ex19 hf
                refine lv_iinc (v := x19) (lv' := [(4, .int x19), (5, .int r12), (3, .int v6), (2, .int v7), (0, .ref (a_v 0)), (1, .int p1)]) C.1 C.2.1 (dk_at dkX5_most 41 rfl) hl (k := 1) rfl (by rw [ex19]; rfl) (by decide) rfl (fun ls hl => ?_)
                refine lv_goto (tgt := 31) C.1 C.2.1 (dk_at dkX5_most 42 rfl) (by decide) ?_
                exact ih x19 v6 v7 _ _ _ w (lv_sub hl [0, 2, 3, 4, 5] rfl) hf
              · have hf := (if_neg c18).symm.trans hf
                refine lv_iload C.1 C.2.1 (dk_at dkX5_most 36 rfl) (lv_at hl 1 rfl) ?_
                obtain ⟨r20, hq21, hf⟩ := bd1_at hf
                refine r_st (As := [.int v5]) (rest := []) C (kX3_cellOf l v5 r20 hq21) (cwS0 C (inr24 _ (List.mem_of_getElem? (i := 21) rfl)) mwX3_cellOf hdX3_cellOf ⟨Nat.le_of_ble_eq_true rfl, Nat.le_of_ble_eq_true rfl⟩) rfl hl.1 rfl (Nat.le_of_ble_eq_true rfl) ⟨Nat.zero_le _, Nat.zero_le _⟩ (dk_at dkX5_most 37 rfl) ?_
                refine lv_istore_n (lv' := [(2, .int r20), (5, .int r12), (4, .int v5), (3, .int v6), (0, .ref (a_v 0)), (1, .int p1)]) C.1 C.2.1 (dk_at dkX5_most 38 rfl) rfl hl (by decide) rfl (fun ls hl => ?_)
                refine lv_iload C.1 C.2.1 (dk_at dkX5_most 39 rfl) (lv_at hl 1 rfl) ?_
                refine lv_istore_n (lv' := [(3, .int r12), (2, .int r20), (5, .int r12), (4, .int v5), (0, .ref (a_v 0)), (1, .int p1)]) C.1 C.2.1 (dk_at dkX5_most 40 rfl) rfl hl (by decide) rfl (fun ls hl => ?_)
                obtain ⟨x22, ex22⟩ : ∃ z : Int32, z = v5 + 1 := ⟨_, rfl⟩
                have hf := nm_at ex22 hf
                refine lv_iinc (v := x22) (lv' := [(4, .int x22), (3, .int r12), (2, .int r20), (5, .int r12), (0, .ref (a_v 0)), (1, .int p1)]) C.1 C.2.1 (dk_at dkX5_most 41 rfl) hl (k := 3) rfl (by rw [ex22]; rfl) (by decide) rfl (fun ls hl => ?_)
                refine lv_goto (tgt := 31) C.1 C.2.1 (dk_at dkX5_most 42 rfl) (by decide) ?_
                exact ih x22 r12 r20 _ _ _ w (lv_sub hl [0, 1, 2, 4, 5] rfl) hf
      refine L8 _ ?_ 4096 0 (-4) (-4) _ _ _ w (lv_sub hl [0, 1, 2, 3, 4] rfl) hf
      clear hf
      intro v5 v6 v7 H locs ls w hl hf
      refine lv_iload_n C.1 C.2.1 (dk_at dkX5_most 43 rfl) rfl (lv_at hl 2 rfl) ?_
      refine lv_if_ne (tgt := 96) C.1 C.2.1 (dk_at dkX5_most 44 rfl) (by decide) (fun c23 => ?_) (fun c23 => ?_)
      · have hf := (if_neg c23).symm.trans hf
        refine lv_iload_n C.1 C.2.1 (dk_at dkX5_most 47 rfl) rfl (lv_at hl 0 rfl) ?_
        cases hf
        exact fin _ _ _ _ _ (dk_at dkX5_most 48 rfl) rfl w
      · have hf := (if_pos c23).symm.trans hf
        refine lv_iload_n C.1 C.2.1 (dk_at dkX5_most 45 rfl) rfl (lv_at hl 1 rfl) ?_
        refine lv_goto (tgt := 97) C.1 C.2.1 (dk_at dkX5_most 46 rfl) (by decide) ?_
        cases hf
        exact fin _ _ _ _ _ (dk_at dkX5_most 48 rfl) rfl w
    · have hf := (if_neg c2).symm.trans hf
      refine lv_iconst (v := (-1)) C.1 C.2.1 (dk_at dkX5_most 5 rfl) (by decide) ?_
      cases hf
      exact fin _ _ _ _ _ (dk_at dkX5_most 6 rfl) rfl w
