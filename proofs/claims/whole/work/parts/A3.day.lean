-- X1.begin
abbrev tbX1_begin : List (Nat × Instr × Nat) := [(0, .aload_n 0, 1), (1, .aload_n 1, 1), (2, .getfield 49, 3), (5, .putfield 53, 3), (8, .aload_n 0, 1), (9, .aload_n 1, 1), (10, .getfield 54, 3), (13, .putfield 31, 3), (16, .aload_n 1, 1), (17, .getfield 44, 3), (20, .iconst 0, 1), (21, .aload_n 0, 1), (22, .getfield 21, 3), (25, .iconst 0, 1), (26, .bipush 10, 2), (28, .invokestatic 55, 3), (31, .iconst 0, 1), (32, .istore_n 2, 1), (33, .iconst 0, 1), (34, .istore_n 3, 1), (35, .iload_n 3, 1), (36, .bipush 10, 2), (38, .if_icmp .ge 56, 3), (41, .iconst 0, 1), (42, .istore 4, 2), (44, .iload 4, 2), (46, .aload_n 0, 1), (47, .getfield 31, 3), (50, .if_icmp .ge 38, 3), (53, .aload_n 1, 1), (54, .getfield 61, 3), (57, .iload 4, 2), (59, .aaload, 1), (60, .iconst 4, 1), (61, .iaload, 1), (62, .iload_n 3, 1), (63, .if_icmp .ne 19, 3), (66, .iload_n 2, 1), (67, .iconst 5, 1), (68, .if_icmp .ge 14, 3), (71, .aload_n 0, 1), (72, .getfield 24, 3), (75, .iload_n 2, 1), (76, .iload 4, 2), (78, .iastore, 1), (79, .iinc 2 1, 3), (82, .iinc 4 1, 3), (85, .goto (-41), 3), (88, .iinc 3 1, 3), (91, .goto (-56), 3), (94, .return_, 1)]
theorem dkX1_begin : dk cX1_begin tbX1_begin := dk_of (by decide +kernel)
abbrev cdX1_begin : Cond := Cond.code yX1_begin cX1_begin 5 none
abbrev rmX1_begin : Room := { frames := 1, cells := 0, slots := 0, locals := 18 }
theorem mwX1_begin : Cond.instanceMethod yX1_begin ∈ wsL_law ∧ Cond.selects RX1 yX1_begin yX1_begin ∈ wsL_law ∧ Cond.initialized RX1 ∈ wsL_law ∧ cdX1_begin ∈ wsL_law := ⟨inr23 _ (List.mem_of_getElem? (i := 13) rfl), inr23 _ (List.mem_of_getElem? (i := 14) rfl), inr1 _ (List.mem_of_getElem? (i := 23) rfl), inr23 _ (List.mem_of_getElem? (i := 15) rfl)⟩
theorem hdX1_begin : yX1_begin.cls = RX1 ∧ yX1_begin.cls ≠ "java/lang/invoke/MethodHandle" ∧ yX1_begin.cls ≠ "java/lang/invoke/VarHandle" ∧ (parseMethodDescriptor yX1_begin.desc).map (fun d => d.parameters.length) = some 1 := by decide +kernel
set_option maxHeartbeats 4000000 in
set_option maxRecDepth 100000 in
theorem kX1_begin (l : Launch) (g : Gx) (sz : Nat) (a_d a_c : Nat → Nat) (d : DT) (c : CT) (d_o : DT) (hf : fX1_begin d c = some d_o) : Met l yX1_begin (cdX1_begin :: wsL_law) rmX1_begin (va_Pc [.ref (a_d 0), .ref (a_c 0)] (RWp g sz (wD g a_d d ++ wC g a_c c))) (va_Qv (fun _ : Unit => True) (fun _ => RWq g (va_A (wD g a_d d ++ wC g a_c c) sz) (wD g a_d d_o ++ wC g a_c c)) (va_A (wD g a_d d ++ wC g a_c c) sz)) 0 0 (va_A (wD g a_d d ++ wC g a_c c) sz) := by
  refine Met_rwv (cc := cX1_begin) (maxL := 5) (by decide) rfl (Nat.le_of_ble_eq_true rfl) ?_
  intro P E Z Mi AR BE ME CO A Q C hK hA fin w ls hl
  have hl : lv_has ls 5 [(0, .ref (a_d 0)), (1, .ref (a_c 0))] := hl
  unfold fX1_begin at hf
  refine lv_aload_n C.1 C.2.1 (dk_at dkX1_begin 0 rfl) rfl (lv_at hl 0 rfl) ?_
  refine lv_aload_n C.1 C.2.1 (dk_at dkX1_begin 1 rfl) rfl (lv_at hl 1 rfl) ?_
  refine r_get (v := .long (cW c)) C hK w.1 (fun w h => List.mem_cons_of_mem _ (inlX0 w h)) 6 rfl rfl 0 (by decide) (List.mem_cons_of_mem _ (inr23 _ (List.mem_of_getElem? (i := 16) rfl))) rfl (dk_at dkX1_begin 2 rfl) ?_
  refine r_put (v := .long (cW c)) C hK w (fun w h => List.mem_cons_of_mem _ (inlX1 w h)) tyX1 tyX1_ok nmX1 0 rfl rfl 3 (by decide) (List.mem_cons_of_mem _ (inr23 _ (List.mem_of_getElem? (i := 17) rfl))) rfl rfl rfl (Nat.le_of_ble_eq_true rfl) (dk_at dkX1_begin 3 rfl) (fun H locs w => ?_)
  obtain ⟨d_1, ed_1⟩ : ∃ z : DT, z = dW' d (cW c) := ⟨_, rfl⟩
  have hf := nm_at ed_1 hf
  have w : Wd g A Z.heap (wD g a_d d_1 ++ wC g a_c c) H locs := by rw [ed_1]; exact w
  refine lv_aload_n C.1 C.2.1 (dk_at dkX1_begin 4 rfl) rfl (lv_at hl 0 rfl) ?_
  refine lv_aload_n C.1 C.2.1 (dk_at dkX1_begin 5 rfl) rfl (lv_at hl 1 rfl) ?_
  refine r_get (v := .int (cSa c)) C hK w.1 (fun w h => List.mem_cons_of_mem _ (inlX0 w h)) 6 rfl rfl 3 (by decide) (List.mem_cons_of_mem _ (inr23 _ (List.mem_of_getElem? (i := 18) rfl))) rfl (dk_at dkX1_begin 6 rfl) ?_
  refine r_put (v := .int (cSa c)) C hK w (fun w h => List.mem_cons_of_mem _ (inlX1 w h)) tyX1 tyX1_ok nmX1 0 rfl rfl 6 (by decide) (List.mem_cons_of_mem _ (inr23 _ (List.mem_of_getElem? (i := 11) rfl))) rfl rfl rfl (Nat.le_of_ble_eq_true rfl) (dk_at dkX1_begin 7 rfl) (fun H locs w => ?_)
  obtain ⟨d_2, ed_2⟩ : ∃ z : DT, z = dSa' d_1 (cSa c) := ⟨_, rfl⟩
  have hf := nm_at ed_2 hf
  have w : Wd g A Z.heap (wD g a_d d_2 ++ wC g a_c c) H locs := by rw [ed_2]; exact w
  refine lv_aload_n C.1 C.2.1 (dk_at dkX1_begin 8 rfl) rfl (lv_at hl 1 rfl) ?_
  refine r_get (v := .ref (a_c 1)) C hK w.1 (fun w h => List.mem_cons_of_mem _ (inlX0 w h)) 6 rfl rfl 1 (by decide) (List.mem_cons_of_mem _ (inr23 _ (List.mem_of_getElem? (i := 19) rfl))) rfl (dk_at dkX1_begin 9 rfl) ?_
  refine lv_iconst (v := 0) C.1 C.2.1 (dk_at dkX1_begin 10 rfl) (by decide) ?_
  refine lv_aload_n C.1 C.2.1 (dk_at dkX1_begin 11 rfl) rfl (lv_at hl 0 rfl) ?_
  refine r_get (v := .ref (a_d 4)) C hK w.1 (fun w h => List.mem_cons_of_mem _ (inlX1 w h)) 0 rfl rfl 4 (by decide) (List.mem_cons_of_mem _ (inr3 _ (List.mem_of_getElem? (i := 18) rfl))) rfl (dk_at dkX1_begin 12 rfl) ?_
  refine lv_iconst (v := 0) C.1 C.2.1 (dk_at dkX1_begin 13 rfl) (by decide) ?_
  refine lv_bipush (v := 10) C.1 C.2.1 (dk_at dkX1_begin 14 rfl) (by decide) ?_
  refine r_copy (a0 := a_c 1) (a := a_d 4) (n0 := 10) (n1 := 10) (f := cWi c) (f1 := dWi d_2) C hK w hl.1 (List.mem_cons_of_mem _ (inr23 _ (List.mem_of_getElem? (i := 20) rfl))) (List.mem_cons_of_mem _ (inr12 _ (List.mem_of_getElem? (i := 11) rfl))) (List.mem_cons_of_mem _ (inr12 _ (List.mem_of_getElem? (i := 12) rfl))) (List.mem_cons_of_mem _ (inr12 _ (List.mem_of_getElem? (i := 13) rfl))) 7 4 rfl rfl (by decide) (by decide) (by decide) (by decide) (by decide) (Nat.le_of_ble_eq_true rfl) (Nat.le_of_ble_eq_true rfl) (dk_at dkX1_begin 15 rfl) (fun H locs w => ?_)
  obtain ⟨d_3, ed_3⟩ : ∃ z : DT, z = dWi' d_2 (va_cpy (cWi c) (dWi d_2) 0 0 10) := ⟨_, rfl⟩
  have hf := nm_at ed_3 hf
  have w : Wd g A Z.heap (wD g a_d d_3 ++ wC g a_c c) H locs := by rw [ed_3]; exact w
  refine lv_iconst (v := 0) C.1 C.2.1 (dk_at dkX1_begin 16 rfl) (by decide) ?_
  refine lv_istore_n (lv' := [(2, .int 0), (0, .ref (a_d 0)), (1, .ref (a_c 0))]) C.1 C.2.1 (dk_at dkX1_begin 17 rfl) rfl hl (by decide) rfl (fun ls hl => ?_)
  refine lv_iconst (v := 0) C.1 C.2.1 (dk_at dkX1_begin 18 rfl) (by decide) ?_
  refine lv_istore_n (lv' := [(3, .int 0), (2, .int 0), (0, .ref (a_d 0)), (1, .ref (a_c 0))]) C.1 C.2.1 (dk_at dkX1_begin 19 rfl) rfl hl (by decide) rfl (fun ls hl => ?_)
  have L7 : ∀ (K : Int32 → Int32 → DT → Option (DT)), (∀ (v4 : Int32) (v5 : Int32) (d_6 : DT) (H : Heap) (locs : List Loc) (ls : Array Slot), Wd g A Z.heap (wD g a_d d_6 ++ wC g a_c c) H locs → lv_has ls 5 [] → K v4 v5 d_6 = some d_o → W P l E rmX1_begin Z Mi AR BE ME CO H locs 0 0 Q (F0 Mi 94 ls [])) → ∀ (n : Nat), ∀ (v4 : Int32) (v5 : Int32) (d_6 : DT) (H : Heap) (locs : List Loc) (ls : Array Slot), Wd g A Z.heap (wD g a_d d_6 ++ wC g a_c c) H locs → lv_has ls 5 [(3, .int v4), (2, .int v5), (0, .ref (a_d 0)), (1, .ref (a_c 0))] → fX1_begin_L35 c K n v4 v5 d_6 = some d_o → W P l E rmX1_begin Z Mi AR BE ME CO H locs 0 0 Q (F0 Mi 35 ls []) := by
    intro K hKe n
    induction n with
    | zero => intro v4 v5 d_6 H locs ls w hl hf; cases hf
    | succ n ih =>
      intro v4 v5 d_6 H locs ls w hl hf
      rw [fX1_begin_L35] at hf
      refine lv_iload_n C.1 C.2.1 (dk_at dkX1_begin 20 rfl) rfl (lv_at hl 0 rfl) ?_
      refine lv_bipush (v := 10) C.1 C.2.1 (dk_at dkX1_begin 21 rfl) (by decide) ?_
      refine lv_icmp_ge (tgt := 94) C.1 C.2.1 (dk_at dkX1_begin 22 rfl) (by decide) (fun c8 => ?_) (fun c8 => ?_)
      · have hf := (if_pos c8).symm.trans hf
        exact hKe v4 v5 d_6 _ _ _ w (lv_sub hl [] rfl) hf
      · have hf := (if_neg c8).symm.trans hf
        refine lv_iconst (v := 0) C.1 C.2.1 (dk_at dkX1_begin 23 rfl) (by decide) ?_
        refine lv_istore (lv' := [(4, .int 0), (3, .int v4), (2, .int v5), (0, .ref (a_d 0)), (1, .ref (a_c 0))]) C.1 C.2.1 (dk_at dkX1_begin 24 rfl) hl (by decide) rfl (fun ls hl => ?_)
        have L12 : ∀ (K : Int32 → Int32 → DT → Option (DT)), (∀ (v9 : Int32) (v10 : Int32) (d_11 : DT) (H : Heap) (locs : List Loc) (ls : Array Slot), Wd g A Z.heap (wD g a_d d_11 ++ wC g a_c c) H locs → lv_has ls 5 [(3, .int v4), (2, .int v10), (0, .ref (a_d 0)), (1, .ref (a_c 0))] → K v9 v10 d_11 = some d_o → W P l E rmX1_begin Z Mi AR BE ME CO H locs 0 0 Q (F0 Mi 88 ls [])) → ∀ (n : Nat), ∀ (v9 : Int32) (v10 : Int32) (d_11 : DT) (H : Heap) (locs : List Loc) (ls : Array Slot), Wd g A Z.heap (wD g a_d d_11 ++ wC g a_c c) H locs → lv_has ls 5 [(4, .int v9), (3, .int v4), (2, .int v10), (0, .ref (a_d 0)), (1, .ref (a_c 0))] → fX1_begin_L44 c v4 K n v9 v10 d_11 = some d_o → W P l E rmX1_begin Z Mi AR BE ME CO H locs 0 0 Q (F0 Mi 44 ls []) := by
          intro K hKe n
          induction n with
          | zero => intro v9 v10 d_11 H locs ls w hl hf; cases hf
          | succ n ih =>
            intro v9 v10 d_11 H locs ls w hl hf
            rw [fX1_begin_L44] at hf
            refine lv_iload C.1 C.2.1 (dk_at dkX1_begin 25 rfl) (lv_at hl 0 rfl) ?_
            refine lv_aload_n C.1 C.2.1 (dk_at dkX1_begin 26 rfl) rfl (lv_at hl 3 rfl) ?_
            refine r_get (v := .int (dSa d_11)) C hK w.1 (fun w h => List.mem_cons_of_mem _ (inlX1 w h)) 0 rfl rfl 6 (by decide) (List.mem_cons_of_mem _ (inr23 _ (List.mem_of_getElem? (i := 11) rfl))) rfl (dk_at dkX1_begin 27 rfl) ?_
            refine lv_icmp_ge (tgt := 88) C.1 C.2.1 (dk_at dkX1_begin 28 rfl) (by decide) (fun c13 => ?_) (fun c13 => ?_)
            · have hf := (if_pos c13).symm.trans hf
              exact hKe v9 v10 d_11 _ _ _ w (lv_sub hl [1, 2, 3, 4] rfl) hf
            · have hf := (if_neg c13).symm.trans hf
              refine lv_aload_n C.1 C.2.1 (dk_at dkX1_begin 29 rfl) rfl (lv_at hl 4 rfl) ?_
              refine r_get (v := .ref (a_c 2)) C hK w.1 (fun w h => List.mem_cons_of_mem _ (inlX0 w h)) 6 rfl rfl 2 (by decide) (List.mem_cons_of_mem _ (inr23 _ (List.mem_of_getElem? (i := 21) rfl))) rfl (dk_at dkX1_begin 30 rfl) ?_
              refine lv_iload C.1 C.2.1 (dk_at dkX1_begin 31 rfl) (lv_at hl 0 rfl) ?_
              obtain ⟨h14, hf⟩ := gd_at hf
              refine r_aldr (b := a_c (3 + v9.toNatClampNeg)) C hK w.1 8 rfl h14 rfl (dk_at dkX1_begin 32 rfl) ?_
              have h15 := in_lt h14
              refine lv_iconst (v := 4) C.1 C.2.1 (dk_at dkX1_begin 33 rfl) (by decide) ?_
              refine r_iald (k := 4) (a := a_c (3 + v9.toNatClampNeg)) (n := 5) (f := cTo c v9.toNatClampNeg) C hK w.1 (6 + (3 + v9.toNatClampNeg)) (by rcases lt5 h15 with h5 | h5 | h5 | h5 | h5 <;> rw [h5] <;> rfl) (in_c (by decide)) (by decide) (dk_at dkX1_begin 34 rfl) ?_
              refine lv_topi (fun x16 ex16 => ?_)
              have hf := nm_at ex16 hf
              refine lv_iload_n C.1 C.2.1 (dk_at dkX1_begin 35 rfl) rfl (lv_at hl 1 rfl) ?_
              refine lv_icmp_ne (tgt := 82) C.1 C.2.1 (dk_at dkX1_begin 36 rfl) (by decide) (fun c17 => ?_) (fun c17 => ?_)
              · have hf := (if_neg c17).symm.trans hf
                obtain ⟨x18, ex18⟩ : ∃ z : Int32, z = v9 + 1 := ⟨_, rfl⟩
                have hf := nm_at ex18 hf
                refine lv_iinc (v := x18) (lv' := [(4, .int x18), (3, .int v4), (2, .int v10), (0, .ref (a_d 0)), (1, .ref (a_c 0))]) C.1 C.2.1 (dk_at dkX1_begin 46 rfl) hl (k := 0) rfl (by rw [ex18]; rfl) (by decide) rfl (fun ls hl => ?_)
                refine lv_goto (tgt := 44) C.1 C.2.1 (dk_at dkX1_begin 47 rfl) (by decide) ?_
                exact ih x18 v10 d_11 _ _ _ w (lv_sub hl [0, 1, 2, 3, 4] rfl) hf
              · have hf := (if_pos c17).symm.trans hf
                refine lv_iload_n C.1 C.2.1 (dk_at dkX1_begin 37 rfl) rfl (lv_at hl 2 rfl) ?_
                refine lv_iconst (v := 5) C.1 C.2.1 (dk_at dkX1_begin 38 rfl) (by decide) ?_
                refine lv_icmp_ge (tgt := 82) C.1 C.2.1 (dk_at dkX1_begin 39 rfl) (by decide) (fun c19 => ?_) (fun c19 => ?_)
                · have hf := (if_pos c19).symm.trans hf
                  obtain ⟨x20, ex20⟩ : ∃ z : Int32, z = v9 + 1 := ⟨_, rfl⟩
                  have hf := nm_at ex20 hf
                  refine lv_iinc (v := x20) (lv' := [(4, .int x20), (3, .int v4), (2, .int v10), (0, .ref (a_d 0)), (1, .ref (a_c 0))]) C.1 C.2.1 (dk_at dkX1_begin 46 rfl) hl (k := 0) rfl (by rw [ex20]; rfl) (by decide) rfl (fun ls hl => ?_)
                  refine lv_goto (tgt := 44) C.1 C.2.1 (dk_at dkX1_begin 47 rfl) (by decide) ?_
                  exact ih x20 v10 d_11 _ _ _ w (lv_sub hl [0, 1, 2, 3, 4] rfl) hf
                · have hf := (if_neg c19).symm.trans hf
                  refine lv_aload_n C.1 C.2.1 (dk_at dkX1_begin 40 rfl) rfl (lv_at hl 3 rfl) ?_
                  refine r_get (v := .ref (a_d 5)) C hK w.1 (fun w h => List.mem_cons_of_mem _ (inlX1 w h)) 0 rfl rfl 5 (by decide) (List.mem_cons_of_mem _ (inr3 _ (List.mem_of_getElem? (i := 19) rfl))) rfl (dk_at dkX1_begin 41 rfl) ?_
                  refine lv_iload_n C.1 C.2.1 (dk_at dkX1_begin 42 rfl) rfl (lv_at hl 2 rfl) ?_
                  refine lv_iload C.1 C.2.1 (dk_at dkX1_begin 43 rfl) (lv_at hl 0 rfl) ?_
                  obtain ⟨h21, hf⟩ := gd_at hf
                  refine r_iast (k := v10.toNatClampNeg) (f := (dOr d_11)) C hK w 5 rfl h21 rfl (dk_at dkX1_begin 44 rfl) (fun H locs w => ?_)
                  obtain ⟨d_22, ed_22⟩ : ∃ z : DT, z = dOr' d_11 (upd (dOr d_11) v10.toNatClampNeg v9) := ⟨_, rfl⟩
                  have hf := nm_at ed_22 hf
                  have w : Wd g A Z.heap (wD g a_d d_22 ++ wC g a_c c) H locs := by rw [ed_22]; exact w
                  obtain ⟨x23, ex23⟩ : ∃ z : Int32, z = v10 + 1 := ⟨_, rfl⟩
                  have hf := nm_at ex23 hf
                  refine lv_iinc (v := x23) (lv' := [(2, .int x23), (4, .int v9), (3, .int v4), (0, .ref (a_d 0)), (1, .ref (a_c 0))]) C.1 C.2.1 (dk_at dkX1_begin 45 rfl) hl (k := 2) rfl (by rw [ex23]; rfl) (by decide) rfl (fun ls hl => ?_)
                  obtain ⟨x24, ex24⟩ : ∃ z : Int32, z = v9 + 1 := ⟨_, rfl⟩
                  have hf := nm_at ex24 hf
                  refine lv_iinc (v := x24) (lv' := [(4, .int x24), (2, .int x23), (3, .int v4), (0, .ref (a_d 0)), (1, .ref (a_c 0))]) C.1 C.2.1 (dk_at dkX1_begin 46 rfl) hl (k := 1) rfl (by rw [ex24]; rfl) (by decide) rfl (fun ls hl => ?_)
                  refine lv_goto (tgt := 44) C.1 C.2.1 (dk_at dkX1_begin 47 rfl) (by decide) ?_
                  exact ih x24 x23 d_22 _ _ _ w (lv_sub hl [0, 2, 1, 3, 4] rfl) hf
        refine L12 _ ?_ 4096 0 v5 d_6 _ _ _ w (lv_sub hl [0, 1, 2, 3, 4] rfl) hf
        clear hf
        intro v9 v10 d_11 H locs ls w hl hf
        obtain ⟨x25, ex25⟩ : ∃ z : Int32, z = v4 + 1 := ⟨_, rfl⟩
        have hf := nm_at ex25 hf
        refine lv_iinc (v := x25) (lv' := [(3, .int x25), (2, .int v10), (0, .ref (a_d 0)), (1, .ref (a_c 0))]) C.1 C.2.1 (dk_at dkX1_begin 48 rfl) hl (k := 0) rfl (by rw [ex25]; rfl) (by decide) rfl (fun ls hl => ?_)
        refine lv_goto (tgt := 35) C.1 C.2.1 (dk_at dkX1_begin 49 rfl) (by decide) ?_
        exact ih x25 v10 d_11 _ _ _ w (lv_sub hl [0, 1, 2, 3] rfl) hf
  refine L7 _ ?_ 4096 0 0 d_3 _ _ _ w (lv_sub hl [0, 1, 2, 3] rfl) hf
  clear hf
  intro v4 v5 d_6 H locs ls w hl hf
  cases hf
  exact fin _ _ _ _ (dk_at dkX1_begin 50 rfl) w
-- X1.isOpen
abbrev tbX1_isOpen : List (Nat × Instr × Nat) := [(0, .iload_n 1, 1), (1, .ifCond .lt 23, 3), (4, .iload_n 2, 1), (5, .iconst 3, 1), (6, .if_icmp .eq 14, 3), (9, .aload_n 0, 1), (10, .getfield 53, 3), (13, .iload_n 1, 1), (14, .invokestatic 93, 3), (17, .ifCond .ne 7, 3), (20, .iconst 1, 1), (21, .goto 4, 3), (24, .iconst 0, 1), (25, .ireturn, 1)]
theorem dkX1_isOpen : dk cX1_isOpen tbX1_isOpen := dk_of (by decide +kernel)
abbrev cdX1_isOpen : Cond := Cond.code yX1_isOpen cX1_isOpen 3 (some .boolean)
abbrev rmX1_isOpen : Room := { frames := 1, cells := 0, slots := 0, locals := 22 }
theorem mwX1_isOpen : Cond.instanceMethod yX1_isOpen ∈ wsL_law ∧ Cond.selects RX1 yX1_isOpen yX1_isOpen ∈ wsL_law ∧ Cond.initialized RX1 ∈ wsL_law ∧ cdX1_isOpen ∈ wsL_law := ⟨inr24 _ (List.mem_of_getElem? (i := 12) rfl), inr24 _ (List.mem_of_getElem? (i := 13) rfl), inr1 _ (List.mem_of_getElem? (i := 23) rfl), inr24 _ (List.mem_of_getElem? (i := 14) rfl)⟩
theorem hdX1_isOpen : yX1_isOpen.cls = RX1 ∧ yX1_isOpen.cls ≠ "java/lang/invoke/MethodHandle" ∧ yX1_isOpen.cls ≠ "java/lang/invoke/VarHandle" ∧ (parseMethodDescriptor yX1_isOpen.desc).map (fun d => d.parameters.length) = some 2 := by decide +kernel
set_option maxHeartbeats 4000000 in
set_option maxRecDepth 100000 in
theorem kX1_isOpen (l : Launch) (g : Gx) (a_d : Nat → Nat) (d : DT) (p1 : Int32) (p2 : Int32) (res : Int32) (hf : fX1_isOpen p1 p2 d = some res) : Met l yX1_isOpen (cdX1_isOpen :: wsL_law) rmX1_isOpen (va_Pc [.ref (a_d 0), .int p1, .int p2] (RO g (wD g a_d d))) (vp_Si (fun x => x = res)) 0 0 (fun _ => False) := by
  refine Met_roz (cc := cX1_isOpen) (maxL := 3) (by decide) rfl (Nat.le_of_ble_eq_true rfl) ?_
  intro P E Z Mi AR BE ME CO Q C fin hK hP ls hl
  have hl : lv_has ls 3 [(0, .ref (a_d 0)), (1, .int p1), (2, .int p2)] := hl
  unfold fX1_isOpen at hf
  refine lv_iload_n C.1 C.2.1 (dk_at dkX1_isOpen 0 rfl) rfl (lv_at hl 1 rfl) ?_
  refine lv_if_lt (tgt := 24) C.1 C.2.1 (dk_at dkX1_isOpen 1 rfl) (by decide) (fun c1 => ?_) (fun c1 => ?_)
  · have hf := (if_pos c1).symm.trans hf
    refine lv_iconst (v := 0) C.1 C.2.1 (dk_at dkX1_isOpen 12 rfl) (by decide) ?_
    cases hf
    exact fin _ _ _ (dk_at dkX1_isOpen 13 rfl) rfl rfl
  · have hf := (if_neg c1).symm.trans hf
    refine lv_iload_n C.1 C.2.1 (dk_at dkX1_isOpen 2 rfl) rfl (lv_at hl 2 rfl) ?_
    refine lv_iconst (v := 3) C.1 C.2.1 (dk_at dkX1_isOpen 3 rfl) (by decide) ?_
    refine lv_icmp_eq (tgt := 20) C.1 C.2.1 (dk_at dkX1_isOpen 4 rfl) (by decide) (fun c2 => ?_) (fun c2 => ?_)
    · have hf := (if_pos c2).symm.trans hf
      refine lv_iconst (v := 1) C.1 C.2.1 (dk_at dkX1_isOpen 10 rfl) (by decide) ?_
      refine lv_goto (tgt := 25) C.1 C.2.1 (dk_at dkX1_isOpen 11 rfl) (by decide) ?_
      cases hf
      exact fin _ _ _ (dk_at dkX1_isOpen 13 rfl) rfl rfl
    · have hf := (if_neg c2).symm.trans hf
      refine lv_aload_n C.1 C.2.1 (dk_at dkX1_isOpen 5 rfl) rfl (lv_at hl 0 rfl) ?_
      refine r_get (v := .long (dW d)) C hK hP (fun w h => List.mem_cons_of_mem _ (inlX1 w h)) 0 rfl rfl 3 (by decide) (List.mem_cons_of_mem _ (inr23 _ (List.mem_of_getElem? (i := 17) rfl))) rfl (dk_at dkX1_isOpen 6 rfl) ?_
      refine lv_iload_n C.1 C.2.1 (dk_at dkX1_isOpen 7 rfl) rfl (lv_at hl 1 rfl) ?_
      obtain ⟨r3, hq4, hf⟩ := bd1_at hf
      refine r_st (As := [.long (dW d), .int p1]) (rest := []) C (kX3_has l (dW d) p1 r3 hq4) (cwS0 C (inr24 _ (List.mem_of_getElem? (i := 15) rfl)) mwX3_has hdX3_has ⟨Nat.le_of_ble_eq_true rfl, Nat.le_of_ble_eq_true rfl⟩) rfl hl.1 rfl (Nat.le_of_ble_eq_true rfl) ⟨Nat.zero_le _, Nat.zero_le _⟩ (dk_at dkX1_isOpen 8 rfl) ?_
      refine lv_if_ne (tgt := 24) C.1 C.2.1 (dk_at dkX1_isOpen 9 rfl) (by decide) (fun c5 => ?_) (fun c5 => ?_)
      · have hf := (if_neg c5).symm.trans hf
        refine lv_iconst (v := 0) C.1 C.2.1 (dk_at dkX1_isOpen 12 rfl) (by decide) ?_
        cases hf
        exact fin _ _ _ (dk_at dkX1_isOpen 13 rfl) rfl rfl
      · have hf := (if_pos c5).symm.trans hf
        refine lv_iconst (v := 1) C.1 C.2.1 (dk_at dkX1_isOpen 10 rfl) (by decide) ?_
        refine lv_goto (tgt := 25) C.1 C.2.1 (dk_at dkX1_isOpen 11 rfl) (by decide) ?_
        cases hf
        exact fin _ _ _ (dk_at dkX1_isOpen 13 rfl) rfl rfl
-- X1.comeDown
abbrev tbX1_comeDown : List (Nat × Instr × Nat) := [(0, .aload_n 1, 1), (1, .getfield 61, 3), (4, .iload_n 2, 1), (5, .aaload, 1), (6, .astore_n 3, 1), (7, .aload_n 3, 1), (8, .iconst 0, 1), (9, .iaload, 1), (10, .aload_n 3, 1), (11, .iconst 3, 1), (12, .iaload, 1), (13, .invokestatic 65, 3), (16, .istore 4, 2), (18, .aload_n 3, 1), (19, .iconst 1, 1), (20, .iaload, 1), (21, .invokestatic 71, 3), (24, .istore 5, 2), (26, .iconst 0, 1), (27, .istore 6, 2), (29, .iload 6, 2), (31, .iload 4, 2), (33, .if_icmp .ge 38, 3), (36, .iload 5, 2), (38, .aload_n 3, 1), (39, .iconst 2, 1), (40, .iaload, 1), (41, .invokestatic 75, 3), (44, .istore 7, 2), (46, .aload_n 0, 1), (47, .iload 7, 2), (49, .aload_n 3, 1), (50, .iconst 0, 1), (51, .iaload, 1), (52, .invokevirtual 78, 3), (55, .ifCond .ne 6, 3), (58, .goto 13, 3), (61, .iload 7, 2), (63, .istore 5, 2), (65, .iinc 6 1, 3), (68, .goto (-39), 3), (71, .aload_n 0, 1), (72, .getfield 9, 3), (75, .iload_n 2, 1), (76, .iload 5, 2), (78, .iastore, 1), (79, .aload_n 0, 1), (80, .getfield 18, 3), (83, .iload_n 2, 1), (84, .iload 6, 2), (86, .iastore, 1), (87, .aload_n 0, 1), (88, .getfield 15, 3), (91, .iload_n 2, 1), (92, .bipush 9, 2), (94, .aload_n 3, 1), (95, .iconst 4, 1), (96, .iaload, 1), (97, .iload 6, 2), (99, .iconst 2, 1), (100, .idiv, 1), (101, .iadd, 1), (102, .invokestatic 82, 3), (105, .iastore, 1), (106, .return_, 1)]
theorem dkX1_comeDown : dk cX1_comeDown tbX1_comeDown := dk_of (by decide +kernel)
abbrev cdX1_comeDown : Cond := Cond.code yX1_comeDown cX1_comeDown 8 none
abbrev rmX1_comeDown : Room := { frames := 2, cells := 0, slots := 0, locals := 44 }
theorem mwX1_comeDown : Cond.instanceMethod yX1_comeDown ∈ wsL_law ∧ Cond.selects RX1 yX1_comeDown yX1_comeDown ∈ wsL_law ∧ Cond.initialized RX1 ∈ wsL_law ∧ cdX1_comeDown ∈ wsL_law := ⟨inr23 _ (List.mem_of_getElem? (i := 23) rfl), inr24 _ (List.mem_of_getElem? (i := 0) rfl), inr1 _ (List.mem_of_getElem? (i := 23) rfl), inr24 _ (List.mem_of_getElem? (i := 1) rfl)⟩
theorem hdX1_comeDown : yX1_comeDown.cls = RX1 ∧ yX1_comeDown.cls ≠ "java/lang/invoke/MethodHandle" ∧ yX1_comeDown.cls ≠ "java/lang/invoke/VarHandle" ∧ (parseMethodDescriptor yX1_comeDown.desc).map (fun d => d.parameters.length) = some 2 := by decide +kernel
set_option maxHeartbeats 4000000 in
set_option maxRecDepth 100000 in
theorem kX1_comeDown (l : Launch) (g : Gx) (sz : Nat) (a_d a_c : Nat → Nat) (d : DT) (c : CT) (p2 : Int32) (d_o : DT) (hf : fX1_comeDown p2 d c = some d_o) : Met l yX1_comeDown (cdX1_comeDown :: wsL_law) rmX1_comeDown (va_Pc [.ref (a_d 0), .ref (a_c 0), .int p2] (RWp g sz (wD g a_d d ++ wC g a_c c))) (va_Qv (fun _ : Unit => True) (fun _ => RWq g (va_A (wD g a_d d ++ wC g a_c c) sz) (wD g a_d d_o ++ wC g a_c c)) (va_A (wD g a_d d ++ wC g a_c c) sz)) 0 0 (va_A (wD g a_d d ++ wC g a_c c) sz) := by
  refine Met_rwv (cc := cX1_comeDown) (maxL := 8) (by decide) rfl (Nat.le_of_ble_eq_true rfl) ?_
  intro P E Z Mi AR BE ME CO A Q C hK hA fin w ls hl
  have hl : lv_has ls 8 [(0, .ref (a_d 0)), (1, .ref (a_c 0)), (2, .int p2)] := hl
  unfold fX1_comeDown at hf
  refine lv_aload_n C.1 C.2.1 (dk_at dkX1_comeDown 0 rfl) rfl (lv_at hl 1 rfl) ?_
  refine r_get (v := .ref (a_c 2)) C hK w.1 (fun w h => List.mem_cons_of_mem _ (inlX0 w h)) 6 rfl rfl 2 (by decide) (List.mem_cons_of_mem _ (inr23 _ (List.mem_of_getElem? (i := 21) rfl))) rfl (dk_at dkX1_comeDown 1 rfl) ?_
  refine lv_iload_n C.1 C.2.1 (dk_at dkX1_comeDown 2 rfl) rfl (lv_at hl 2 rfl) ?_
  obtain ⟨h1, hf⟩ := gd_at hf
  refine r_aldr (b := a_c (3 + p2.toNatClampNeg)) C hK w.1 8 rfl h1 rfl (dk_at dkX1_comeDown 3 rfl) ?_
  have h2 := in_lt h1
  refine lv_astore_n (lv' := [(3, .ref (a_c (3 + p2.toNatClampNeg))), (0, .ref (a_d 0)), (1, .ref (a_c 0)), (2, .int p2)]) C.1 C.2.1 (dk_at dkX1_comeDown 4 rfl) rfl hl (by decide) rfl (fun ls hl => ?_)
  refine lv_aload_n C.1 C.2.1 (dk_at dkX1_comeDown 5 rfl) rfl (lv_at hl 0 rfl) ?_
  refine lv_iconst (v := 0) C.1 C.2.1 (dk_at dkX1_comeDown 6 rfl) (by decide) ?_
  refine r_iald (k := 0) (a := a_c (3 + p2.toNatClampNeg)) (n := 5) (f := cTo c p2.toNatClampNeg) C hK w.1 (6 + (3 + p2.toNatClampNeg)) (by rcases lt5 h2 with h5 | h5 | h5 | h5 | h5 <;> rw [h5] <;> rfl) (in_c (by decide)) (by decide) (dk_at dkX1_comeDown 7 rfl) ?_
  refine lv_topi (fun x3 ex3 => ?_)
  have hf := nm_at ex3 hf
  refine lv_aload_n C.1 C.2.1 (dk_at dkX1_comeDown 8 rfl) rfl (lv_at hl 0 rfl) ?_
  refine lv_iconst (v := 3) C.1 C.2.1 (dk_at dkX1_comeDown 9 rfl) (by decide) ?_
  refine r_iald (k := 3) (a := a_c (3 + p2.toNatClampNeg)) (n := 5) (f := cTo c p2.toNatClampNeg) C hK w.1 (6 + (3 + p2.toNatClampNeg)) (by rcases lt5 h2 with h5 | h5 | h5 | h5 | h5 <;> rw [h5] <;> rfl) (in_c (by decide)) (by decide) (dk_at dkX1_comeDown 10 rfl) ?_
  refine lv_topi (fun x4 ex4 => ?_)
  have hf := nm_at ex4 hf
  obtain ⟨r5, hq6, hf⟩ := bd1_at hf
  refine r_st (As := [.int x3, .int x4]) (rest := []) C (kX3_reachBy l x3 x4 r5 hq6) (cwS0 C (inr24 _ (List.mem_of_getElem? (i := 6) rfl)) mwX3_reachBy hdX3_reachBy ⟨Nat.le_of_ble_eq_true rfl, Nat.le_of_ble_eq_true rfl⟩) rfl hl.1 rfl (Nat.le_of_ble_eq_true rfl) ⟨Nat.zero_le _, Nat.zero_le _⟩ (dk_at dkX1_comeDown 11 rfl) ?_
  refine lv_istore (lv' := [(4, .int r5), (3, .ref (a_c (3 + p2.toNatClampNeg))), (0, .ref (a_d 0)), (1, .ref (a_c 0)), (2, .int p2)]) C.1 C.2.1 (dk_at dkX1_comeDown 12 rfl) hl (by decide) rfl (fun ls hl => ?_)
  refine lv_aload_n C.1 C.2.1 (dk_at dkX1_comeDown 13 rfl) rfl (lv_at hl 1 rfl) ?_
  refine lv_iconst (v := 1) C.1 C.2.1 (dk_at dkX1_comeDown 14 rfl) (by decide) ?_
  refine r_iald (k := 1) (a := a_c (3 + p2.toNatClampNeg)) (n := 5) (f := cTo c p2.toNatClampNeg) C hK w.1 (6 + (3 + p2.toNatClampNeg)) (by rcases lt5 h2 with h5 | h5 | h5 | h5 | h5 <;> rw [h5] <;> rfl) (in_c (by decide)) (by decide) (dk_at dkX1_comeDown 15 rfl) ?_
  refine lv_topi (fun x7 ex7 => ?_)
  have hf := nm_at ex7 hf
  obtain ⟨r8, hq9, hf⟩ := bd1_at hf
  refine r_st (As := [.int x7]) (rest := []) C (kX3_placeOf l x7 r8 hq9) (cwS0 C (inr24 _ (List.mem_of_getElem? (i := 7) rfl)) mwX3_placeOf hdX3_placeOf ⟨Nat.le_of_ble_eq_true rfl, Nat.le_of_ble_eq_true rfl⟩) rfl hl.1 rfl (Nat.le_of_ble_eq_true rfl) ⟨Nat.zero_le _, Nat.zero_le _⟩ (dk_at dkX1_comeDown 16 rfl) ?_
  refine lv_istore (lv' := [(5, .int r8), (4, .int r5), (3, .ref (a_c (3 + p2.toNatClampNeg))), (0, .ref (a_d 0)), (1, .ref (a_c 0)), (2, .int p2)]) C.1 C.2.1 (dk_at dkX1_comeDown 17 rfl) hl (by decide) rfl (fun ls hl => ?_)
  refine lv_iconst (v := 0) C.1 C.2.1 (dk_at dkX1_comeDown 18 rfl) (by decide) ?_
  refine lv_istore (lv' := [(6, .int 0), (5, .int r8), (4, .int r5), (3, .ref (a_c (3 + p2.toNatClampNeg))), (0, .ref (a_d 0)), (1, .ref (a_c 0)), (2, .int p2)]) C.1 C.2.1 (dk_at dkX1_comeDown 19 rfl) hl (by decide) rfl (fun ls hl => ?_)
  have L12 : ∀ (K : Int32 → Int32 → Option (DT)), (∀ (v10 : Int32) (v11 : Int32) (H : Heap) (locs : List Loc) (ls : Array Slot), Wd g A Z.heap (wD g a_d d ++ wC g a_c c) H locs → lv_has ls 8 [(6, .int v10), (5, .int v11), (3, .ref (a_c (3 + p2.toNatClampNeg))), (0, .ref (a_d 0)), (2, .int p2)] → K v10 v11 = some d_o → W P l E rmX1_comeDown Z Mi AR BE ME CO H locs 0 0 Q (F0 Mi 71 ls [])) → ∀ (n : Nat), ∀ (v10 : Int32) (v11 : Int32) (H : Heap) (locs : List Loc) (ls : Array Slot), Wd g A Z.heap (wD g a_d d ++ wC g a_c c) H locs → lv_has ls 8 [(6, .int v10), (5, .int v11), (4, .int r5), (3, .ref (a_c (3 + p2.toNatClampNeg))), (0, .ref (a_d 0)), (2, .int p2)] → fX1_comeDown_L29 d c p2 r5 K n v10 v11 = some d_o → W P l E rmX1_comeDown Z Mi AR BE ME CO H locs 0 0 Q (F0 Mi 29 ls []) := by
    intro K hKe n
    induction n with
    | zero => intro v10 v11 H locs ls w hl hf; cases hf
    | succ n ih =>
      intro v10 v11 H locs ls w hl hf
      rw [fX1_comeDown_L29] at hf
      refine lv_iload C.1 C.2.1 (dk_at dkX1_comeDown 20 rfl) (lv_at hl 0 rfl) ?_
      refine lv_iload C.1 C.2.1 (dk_at dkX1_comeDown 21 rfl) (lv_at hl 2 rfl) ?_
      refine lv_icmp_ge (tgt := 71) C.1 C.2.1 (dk_at dkX1_comeDown 22 rfl) (by decide) (fun c13 => ?_) (fun c13 => ?_)
      · have hf := (if_pos c13).symm.trans hf
        exact hKe v10 v11 _ _ _ w (lv_sub hl [0, 1, 3, 4, 5] rfl) hf
      · have hf := (if_neg c13).symm.trans hf
        refine lv_iload C.1 C.2.1 (dk_at dkX1_comeDown 23 rfl) (lv_at hl 1 rfl) ?_
        refine lv_aload_n C.1 C.2.1 (dk_at dkX1_comeDown 24 rfl) rfl (lv_at hl 3 rfl) ?_
        refine lv_iconst (v := 2) C.1 C.2.1 (dk_at dkX1_comeDown 25 rfl) (by decide) ?_
        refine r_iald (k := 2) (a := a_c (3 + p2.toNatClampNeg)) (n := 5) (f := cTo c p2.toNatClampNeg) C hK w.1 (6 + (3 + p2.toNatClampNeg)) (by rcases lt5 h2 with h5 | h5 | h5 | h5 | h5 <;> rw [h5] <;> rfl) (in_c (by decide)) (by decide) (dk_at dkX1_comeDown 26 rfl) ?_
        refine lv_topi (fun x14 ex14 => ?_)
        have hf := nm_at ex14 hf
        obtain ⟨r15, hq16, hf⟩ := bd1_at hf
        refine r_st (As := [.int v11, .int x14]) (rest := []) C (kX3_onFrom l v11 x14 r15 hq16) (cwS0 C (inr24 _ (List.mem_of_getElem? (i := 8) rfl)) mwX3_onFrom hdX3_onFrom ⟨Nat.le_of_ble_eq_true rfl, Nat.le_of_ble_eq_true rfl⟩) rfl hl.1 rfl (Nat.le_of_ble_eq_true rfl) ⟨Nat.zero_le _, Nat.zero_le _⟩ (dk_at dkX1_comeDown 27 rfl) ?_
        refine lv_istore (lv' := [(7, .int r15), (6, .int v10), (5, .int v11), (4, .int r5), (3, .ref (a_c (3 + p2.toNatClampNeg))), (0, .ref (a_d 0)), (2, .int p2)]) C.1 C.2.1 (dk_at dkX1_comeDown 28 rfl) hl (by decide) rfl (fun ls hl => ?_)
        refine lv_aload_n C.1 C.2.1 (dk_at dkX1_comeDown 29 rfl) rfl (lv_at hl 5 rfl) ?_
        refine lv_iload C.1 C.2.1 (dk_at dkX1_comeDown 30 rfl) (lv_at hl 0 rfl) ?_
        refine lv_aload_n C.1 C.2.1 (dk_at dkX1_comeDown 31 rfl) rfl (lv_at hl 4 rfl) ?_
        refine lv_iconst (v := 0) C.1 C.2.1 (dk_at dkX1_comeDown 32 rfl) (by decide) ?_
        refine r_iald (k := 0) (a := a_c (3 + p2.toNatClampNeg)) (n := 5) (f := cTo c p2.toNatClampNeg) C hK w.1 (6 + (3 + p2.toNatClampNeg)) (by rcases lt5 h2 with h5 | h5 | h5 | h5 | h5 <;> rw [h5] <;> rfl) (in_c (by decide)) (by decide) (dk_at dkX1_comeDown 33 rfl) ?_
        refine lv_topi (fun x17 ex17 => ?_)
        have hf := nm_at ex17 hf
        obtain ⟨r18, hq19, hf⟩ := bd1_at hf
        refine r_roV (As := [.int r15, .int x17]) (rest := []) C (kX1_isOpen l g a_d d r15 x17 r18 hq19) (cwV0 C (inr24 _ (List.mem_of_getElem? (i := 11) rfl)) mwX1_isOpen hdX1_isOpen ⟨Nat.le_of_ble_eq_true rfl, Nat.le_of_ble_eq_true rfl⟩) hK (w.1.sub [0, 1, 2, 3, 4, 5] rfl) rfl rfl rfl hl.1 rfl (Nat.le_of_ble_eq_true rfl) ⟨Nat.zero_le _, Nat.zero_le _⟩ (dk_at dkX1_comeDown 34 rfl) ?_
        refine lv_if_ne (tgt := 61) C.1 C.2.1 (dk_at dkX1_comeDown 35 rfl) (by decide) (fun c20 => ?_) (fun c20 => ?_)
        · have hf := (if_neg c20).symm.trans hf
          refine lv_iload C.1 C.2.1 (dk_at dkX1_comeDown 37 rfl) (lv_at hl 0 rfl) ?_
          refine lv_istore (lv' := [(5, .int r15), (7, .int r15), (6, .int v10), (4, .int r5), (3, .ref (a_c (3 + p2.toNatClampNeg))), (0, .ref (a_d 0)), (2, .int p2)]) C.1 C.2.1 (dk_at dkX1_comeDown 38 rfl) hl (by decide) rfl (fun ls hl => ?_)
          obtain ⟨x21, ex21⟩ : ∃ z : Int32, z = v10 + 1 := ⟨_, rfl⟩
          have hf := nm_at ex21 hf
          refine lv_iinc (v := x21) (lv' := [(6, .int x21), (5, .int r15), (7, .int r15), (4, .int r5), (3, .ref (a_c (3 + p2.toNatClampNeg))), (0, .ref (a_d 0)), (2, .int p2)]) C.1 C.2.1 (dk_at dkX1_comeDown 39 rfl) hl (k := 2) rfl (by rw [ex21]; rfl) (by decide) rfl (fun ls hl => ?_)
          refine lv_goto (tgt := 29) C.1 C.2.1 (dk_at dkX1_comeDown 40 rfl) (by decide) ?_
          exact ih x21 r15 _ _ _ w (lv_sub hl [0, 1, 3, 4, 5, 6] rfl) hf
        · have hf := (if_pos c20).symm.trans hf
          refine lv_goto (tgt := 71) C.1 C.2.1 (dk_at dkX1_comeDown 36 rfl) (by decide) ?_
          exact hKe v10 v11 _ _ _ w (lv_sub hl [1, 2, 4, 5, 6] rfl) hf
  refine L12 _ ?_ 4096 0 r8 _ _ _ w (lv_sub hl [0, 1, 2, 3, 4, 6] rfl) hf
  clear hf
  intro v10 v11 H locs ls w hl hf
  refine lv_aload_n C.1 C.2.1 (dk_at dkX1_comeDown 41 rfl) rfl (lv_at hl 3 rfl) ?_
  refine r_get (v := .ref (a_d 1)) C hK w.1 (fun w h => List.mem_cons_of_mem _ (inlX1 w h)) 0 rfl rfl 0 (by decide) (List.mem_cons_of_mem _ (inr3 _ (List.mem_of_getElem? (i := 15) rfl))) rfl (dk_at dkX1_comeDown 42 rfl) ?_
  refine lv_iload_n C.1 C.2.1 (dk_at dkX1_comeDown 43 rfl) rfl (lv_at hl 4 rfl) ?_
  refine lv_iload C.1 C.2.1 (dk_at dkX1_comeDown 44 rfl) (lv_at hl 1 rfl) ?_
  obtain ⟨h22, hf⟩ := gd_at hf
  refine r_iast (k := p2.toNatClampNeg) (f := (dPl d)) C hK w 1 rfl h22 rfl (dk_at dkX1_comeDown 45 rfl) (fun H locs w => ?_)
  obtain ⟨d_23, ed_23⟩ : ∃ z : DT, z = dPl' d (upd (dPl d) p2.toNatClampNeg v11) := ⟨_, rfl⟩
  have hf := nm_at ed_23 hf
  have w : Wd g A Z.heap (wD g a_d d_23 ++ wC g a_c c) H locs := by rw [ed_23]; exact w
  refine lv_aload_n C.1 C.2.1 (dk_at dkX1_comeDown 46 rfl) rfl (lv_at hl 3 rfl) ?_
  refine r_get (v := .ref (a_d 3)) C hK w.1 (fun w h => List.mem_cons_of_mem _ (inlX1 w h)) 0 rfl rfl 2 (by decide) (List.mem_cons_of_mem _ (inr3 _ (List.mem_of_getElem? (i := 17) rfl))) rfl (dk_at dkX1_comeDown 47 rfl) ?_
  refine lv_iload_n C.1 C.2.1 (dk_at dkX1_comeDown 48 rfl) rfl (lv_at hl 4 rfl) ?_
  refine lv_iload C.1 C.2.1 (dk_at dkX1_comeDown 49 rfl) (lv_at hl 0 rfl) ?_
  obtain ⟨h24, hf⟩ := gd_at hf
  refine r_iast (k := p2.toNatClampNeg) (f := (dSt d_23)) C hK w 3 rfl h24 rfl (dk_at dkX1_comeDown 50 rfl) (fun H locs w => ?_)
  obtain ⟨d_25, ed_25⟩ : ∃ z : DT, z = dSt' d_23 (upd (dSt d_23) p2.toNatClampNeg v10) := ⟨_, rfl⟩
  have hf := nm_at ed_25 hf
  have w : Wd g A Z.heap (wD g a_d d_25 ++ wC g a_c c) H locs := by rw [ed_25]; exact w
  refine lv_aload_n C.1 C.2.1 (dk_at dkX1_comeDown 51 rfl) rfl (lv_at hl 3 rfl) ?_
  refine r_get (v := .ref (a_d 2)) C hK w.1 (fun w h => List.mem_cons_of_mem _ (inlX1 w h)) 0 rfl rfl 1 (by decide) (List.mem_cons_of_mem _ (inr3 _ (List.mem_of_getElem? (i := 16) rfl))) rfl (dk_at dkX1_comeDown 52 rfl) ?_
  refine lv_iload_n C.1 C.2.1 (dk_at dkX1_comeDown 53 rfl) rfl (lv_at hl 4 rfl) ?_
  refine lv_bipush (v := 9) C.1 C.2.1 (dk_at dkX1_comeDown 54 rfl) (by decide) ?_
  refine lv_aload_n C.1 C.2.1 (dk_at dkX1_comeDown 55 rfl) rfl (lv_at hl 2 rfl) ?_
  refine lv_iconst (v := 4) C.1 C.2.1 (dk_at dkX1_comeDown 56 rfl) (by decide) ?_
  refine r_iald (k := 4) (a := a_c (3 + p2.toNatClampNeg)) (n := 5) (f := cTo c p2.toNatClampNeg) C hK w.1 (6 + (3 + p2.toNatClampNeg)) (by rcases lt5 h2 with h5 | h5 | h5 | h5 | h5 <;> rw [h5] <;> rfl) (in_c (by decide)) (by decide) (dk_at dkX1_comeDown 57 rfl) ?_
  refine lv_topi (fun x26 ex26 => ?_)
  have hf := nm_at ex26 hf
  refine lv_iload C.1 C.2.1 (dk_at dkX1_comeDown 58 rfl) (lv_at hl 0 rfl) ?_
  refine lv_iconst (v := 2) C.1 C.2.1 (dk_at dkX1_comeDown 59 rfl) (by decide) ?_
  refine lv_idiv C.1 C.2.1 (dk_at dkX1_comeDown 60 rfl) (by decide) ?_
  refine lv_iadd C.1 C.2.1 (dk_at dkX1_comeDown 61 rfl) ?_
  refine lv_topi (fun x27 ex27 => ?_)
  have hf := nm_at ex27 hf
  refine va_mmin C.1 C.2.1 (C.2.2.1.trans hl.1.symm) C.2.2.2.1 (C.2.2.2.2 _ (List.mem_cons_of_mem _ (inr24 _ (List.mem_of_getElem? (i := 2) rfl)))) (C.2.2.2.2 _ (List.mem_cons_of_mem _ (inr24 _ (List.mem_of_getElem? (i := 3) rfl)))) (C.2.2.2.2 _ (List.mem_cons_of_mem _ (inr24 _ (List.mem_of_getElem? (i := 4) rfl)))) (C.2.2.2.2 _ (List.mem_cons_of_mem _ (inr24 _ (List.mem_of_getElem? (i := 5) rfl)))) (Nat.le_of_ble_eq_true rfl) (Nat.le_of_ble_eq_true rfl) (Nat.zero_le _) (Nat.zero_le _) (dk_at dkX1_comeDown 62 rfl) ?_
  refine lv_topi (fun x28 ex28 => ?_)
  have hf := nm_at ex28 hf
  obtain ⟨h29, hf⟩ := gd_at hf
  refine r_iast (k := p2.toNatClampNeg) (f := (dHo d_25)) C hK w 2 rfl h29 rfl (dk_at dkX1_comeDown 63 rfl) (fun H locs w => ?_)
  obtain ⟨d_30, ed_30⟩ : ∃ z : DT, z = dHo' d_25 (upd (dHo d_25) p2.toNatClampNeg x28) := ⟨_, rfl⟩
  have hf := nm_at ed_30 hf
  have w : Wd g A Z.heap (wD g a_d d_30 ++ wC g a_c c) H locs := by rw [ed_30]; exact w
  cases hf
  exact fin _ _ _ _ (dk_at dkX1_comeDown 64 rfl) w
-- X1.land
abbrev tbX1_land : List (Nat × Instr × Nat) := [(0, .aload_n 1, 1), (1, .getfield 61, 3), (4, .iload_n 2, 1), (5, .aaload, 1), (6, .iconst 0, 1), (7, .iaload, 1), (8, .istore_n 3, 1), (9, .aload_n 0, 1), (10, .getfield 9, 3), (13, .iload_n 2, 1), (14, .iaload, 1), (15, .aload_n 0, 1), (16, .getfield 21, 3), (19, .aload_n 0, 1), (20, .getfield 15, 3), (23, .iload_n 2, 1), (24, .iaload, 1), (25, .iaload, 1), (26, .invokestatic 75, 3), (29, .istore 4, 2), (31, .aload_n 0, 1), (32, .iload 4, 2), (34, .iload_n 3, 1), (35, .invokevirtual 78, 3), (38, .ifCond .eq 11, 3), (41, .aload_n 0, 1), (42, .getfield 9, 3), (45, .iload_n 2, 1), (46, .iload 4, 2), (48, .iastore, 1), (49, .iload_n 3, 1), (50, .iconst 2, 1), (51, .if_icmp .ne 32, 3), (54, .aload_n 0, 1), (55, .getfield 53, 3), (58, .invokestatic 87, 3), (61, .bipush 12, 2), (63, .if_icmp .ge 20, 3), (66, .aload_n 0, 1), (67, .dup, 1), (68, .getfield 53, 3), (71, .lconst 1, 1), (72, .aload_n 0, 1), (73, .getfield 9, 3), (76, .iload_n 2, 1), (77, .iaload, 1), (78, .lshl, 1), (79, .lor, 1), (80, .putfield 53, 3), (83, .return_, 1)]
theorem dkX1_land : dk cX1_land tbX1_land := dk_of (by decide +kernel)
abbrev cdX1_land : Cond := Cond.code yX1_land cX1_land 5 none
abbrev rmX1_land : Room := { frames := 2, cells := 0, slots := 0, locals := 44 }
theorem mwX1_land : Cond.instanceMethod yX1_land ∈ wsL_law ∧ Cond.selects RX1 yX1_land yX1_land ∈ wsL_law ∧ Cond.initialized RX1 ∈ wsL_law ∧ cdX1_land ∈ wsL_law := ⟨inr24 _ (List.mem_of_getElem? (i := 17) rfl), inr24 _ (List.mem_of_getElem? (i := 18) rfl), inr1 _ (List.mem_of_getElem? (i := 23) rfl), inr24 _ (List.mem_of_getElem? (i := 19) rfl)⟩
theorem hdX1_land : yX1_land.cls = RX1 ∧ yX1_land.cls ≠ "java/lang/invoke/MethodHandle" ∧ yX1_land.cls ≠ "java/lang/invoke/VarHandle" ∧ (parseMethodDescriptor yX1_land.desc).map (fun d => d.parameters.length) = some 2 := by decide +kernel
set_option maxHeartbeats 4000000 in
set_option maxRecDepth 100000 in
theorem kX1_land (l : Launch) (g : Gx) (sz : Nat) (a_d a_c : Nat → Nat) (d : DT) (c : CT) (p2 : Int32) (d_o : DT) (hf : fX1_land p2 d c = some d_o) : Met l yX1_land (cdX1_land :: wsL_law) rmX1_land (va_Pc [.ref (a_d 0), .ref (a_c 0), .int p2] (RWp g sz (wD g a_d d ++ wC g a_c c))) (va_Qv (fun _ : Unit => True) (fun _ => RWq g (va_A (wD g a_d d ++ wC g a_c c) sz) (wD g a_d d_o ++ wC g a_c c)) (va_A (wD g a_d d ++ wC g a_c c) sz)) 0 0 (va_A (wD g a_d d ++ wC g a_c c) sz) := by
  refine Met_rwv (cc := cX1_land) (maxL := 5) (by decide) rfl (Nat.le_of_ble_eq_true rfl) ?_
  intro P E Z Mi AR BE ME CO A Q C hK hA fin w ls hl
  have hl : lv_has ls 5 [(0, .ref (a_d 0)), (1, .ref (a_c 0)), (2, .int p2)] := hl
  unfold fX1_land at hf
  refine lv_aload_n C.1 C.2.1 (dk_at dkX1_land 0 rfl) rfl (lv_at hl 1 rfl) ?_
  refine r_get (v := .ref (a_c 2)) C hK w.1 (fun w h => List.mem_cons_of_mem _ (inlX0 w h)) 6 rfl rfl 2 (by decide) (List.mem_cons_of_mem _ (inr23 _ (List.mem_of_getElem? (i := 21) rfl))) rfl (dk_at dkX1_land 1 rfl) ?_
  refine lv_iload_n C.1 C.2.1 (dk_at dkX1_land 2 rfl) rfl (lv_at hl 2 rfl) ?_
  obtain ⟨h1, hf⟩ := gd_at hf
  refine r_aldr (b := a_c (3 + p2.toNatClampNeg)) C hK w.1 8 rfl h1 rfl (dk_at dkX1_land 3 rfl) ?_
  have h2 := in_lt h1
  refine lv_iconst (v := 0) C.1 C.2.1 (dk_at dkX1_land 4 rfl) (by decide) ?_
  refine r_iald (k := 0) (a := a_c (3 + p2.toNatClampNeg)) (n := 5) (f := cTo c p2.toNatClampNeg) C hK w.1 (6 + (3 + p2.toNatClampNeg)) (by rcases lt5 h2 with h5 | h5 | h5 | h5 | h5 <;> rw [h5] <;> rfl) (in_c (by decide)) (by decide) (dk_at dkX1_land 5 rfl) ?_
  refine lv_topi (fun x3 ex3 => ?_)
  have hf := nm_at ex3 hf
  refine lv_istore_n (lv' := [(3, .int x3), (0, .ref (a_d 0)), (1, .ref (a_c 0)), (2, .int p2)]) C.1 C.2.1 (dk_at dkX1_land 6 rfl) rfl hl (by decide) rfl (fun ls hl => ?_)
  refine lv_aload_n C.1 C.2.1 (dk_at dkX1_land 7 rfl) rfl (lv_at hl 1 rfl) ?_
  refine r_get (v := .ref (a_d 1)) C hK w.1 (fun w h => List.mem_cons_of_mem _ (inlX1 w h)) 0 rfl rfl 0 (by decide) (List.mem_cons_of_mem _ (inr3 _ (List.mem_of_getElem? (i := 15) rfl))) rfl (dk_at dkX1_land 8 rfl) ?_
  refine lv_iload_n C.1 C.2.1 (dk_at dkX1_land 9 rfl) rfl (lv_at hl 3 rfl) ?_
  obtain ⟨h4, hf⟩ := gd_at hf
  refine r_iald (k := p2.toNatClampNeg) (f := (dPl d)) C hK w.1 1 rfl h4 rfl (dk_at dkX1_land 10 rfl) ?_
  refine lv_topi (fun x5 ex5 => ?_)
  have hf := nm_at ex5 hf
  refine lv_aload_n C.1 C.2.1 (dk_at dkX1_land 11 rfl) rfl (lv_at hl 1 rfl) ?_
  refine r_get (v := .ref (a_d 4)) C hK w.1 (fun w h => List.mem_cons_of_mem _ (inlX1 w h)) 0 rfl rfl 4 (by decide) (List.mem_cons_of_mem _ (inr3 _ (List.mem_of_getElem? (i := 18) rfl))) rfl (dk_at dkX1_land 12 rfl) ?_
  refine lv_aload_n C.1 C.2.1 (dk_at dkX1_land 13 rfl) rfl (lv_at hl 1 rfl) ?_
  refine r_get (v := .ref (a_d 2)) C hK w.1 (fun w h => List.mem_cons_of_mem _ (inlX1 w h)) 0 rfl rfl 1 (by decide) (List.mem_cons_of_mem _ (inr3 _ (List.mem_of_getElem? (i := 16) rfl))) rfl (dk_at dkX1_land 14 rfl) ?_
  refine lv_iload_n C.1 C.2.1 (dk_at dkX1_land 15 rfl) rfl (lv_at hl 3 rfl) ?_
  obtain ⟨h6, hf⟩ := gd_at hf
  refine r_iald (k := p2.toNatClampNeg) (f := (dHo d)) C hK w.1 2 rfl h6 rfl (dk_at dkX1_land 16 rfl) ?_
  refine lv_topi (fun x7 ex7 => ?_)
  have hf := nm_at ex7 hf
  obtain ⟨h8, hf⟩ := gd_at hf
  refine r_iald (k := x7.toNatClampNeg) (f := (dWi d)) C hK w.1 4 rfl h8 rfl (dk_at dkX1_land 17 rfl) ?_
  refine lv_topi (fun x9 ex9 => ?_)
  have hf := nm_at ex9 hf
  obtain ⟨r10, hq11, hf⟩ := bd1_at hf
  refine r_st (As := [.int x5, .int x9]) (rest := []) C (kX3_onFrom l x5 x9 r10 hq11) (cwS0 C (inr24 _ (List.mem_of_getElem? (i := 8) rfl)) mwX3_onFrom hdX3_onFrom ⟨Nat.le_of_ble_eq_true rfl, Nat.le_of_ble_eq_true rfl⟩) rfl hl.1 rfl (Nat.le_of_ble_eq_true rfl) ⟨Nat.zero_le _, Nat.zero_le _⟩ (dk_at dkX1_land 18 rfl) ?_
  refine lv_istore (lv' := [(4, .int r10), (3, .int x3), (0, .ref (a_d 0)), (1, .ref (a_c 0)), (2, .int p2)]) C.1 C.2.1 (dk_at dkX1_land 19 rfl) hl (by decide) rfl (fun ls hl => ?_)
  refine lv_aload_n C.1 C.2.1 (dk_at dkX1_land 20 rfl) rfl (lv_at hl 2 rfl) ?_
  refine lv_iload C.1 C.2.1 (dk_at dkX1_land 21 rfl) (lv_at hl 0 rfl) ?_
  refine lv_iload_n C.1 C.2.1 (dk_at dkX1_land 22 rfl) rfl (lv_at hl 1 rfl) ?_
  obtain ⟨r12, hq13, hf⟩ := bd1_at hf
  refine r_roV (As := [.int r10, .int x3]) (rest := []) C (kX1_isOpen l g a_d d r10 x3 r12 hq13) (cwV0 C (inr24 _ (List.mem_of_getElem? (i := 11) rfl)) mwX1_isOpen hdX1_isOpen ⟨Nat.le_of_ble_eq_true rfl, Nat.le_of_ble_eq_true rfl⟩) hK (w.1.sub [0, 1, 2, 3, 4, 5] rfl) rfl rfl rfl hl.1 rfl (Nat.le_of_ble_eq_true rfl) ⟨Nat.zero_le _, Nat.zero_le _⟩ (dk_at dkX1_land 23 rfl) ?_
  obtain ⟨d_14, hq15, hf⟩ := bd1_at hf
  have J16 : ∀ (H : Heap) (locs : List Loc) (ls : Array Slot), Wd g A Z.heap (wD g a_d d_14 ++ wC g a_c c) H locs → lv_has ls 5 [(3, .int x3), (0, .ref (a_d 0)), (2, .int p2)] → W P l E rmX1_land Z Mi AR BE ME CO H locs 0 0 Q (F0 Mi 49 ls []) := by
    intro H locs ls w hl
    refine lv_iload_n C.1 C.2.1 (dk_at dkX1_land 30 rfl) rfl (lv_at hl 0 rfl) ?_
    refine lv_iconst (v := 2) C.1 C.2.1 (dk_at dkX1_land 31 rfl) (by decide) ?_
    refine lv_icmp_ne (tgt := 83) C.1 C.2.1 (dk_at dkX1_land 32 rfl) (by decide) (fun c17 => ?_) (fun c17 => ?_)
    · have hf := (if_neg c17).symm.trans hf
      cases hf
      exact fin _ _ _ _ (dk_at dkX1_land 49 rfl) w
    · have hf := (if_pos c17).symm.trans hf
      refine lv_aload_n C.1 C.2.1 (dk_at dkX1_land 33 rfl) rfl (lv_at hl 1 rfl) ?_
      refine r_get (v := .long (dW d_14)) C hK w.1 (fun w h => List.mem_cons_of_mem _ (inlX1 w h)) 0 rfl rfl 3 (by decide) (List.mem_cons_of_mem _ (inr23 _ (List.mem_of_getElem? (i := 17) rfl))) rfl (dk_at dkX1_land 34 rfl) ?_
      obtain ⟨r18, hq19, hf⟩ := bd1_at hf
      refine r_st (As := [.long (dW d_14)]) (rest := []) C (kJ13_bitCount_95d88 l (dW d_14) r18 hq19) (cwS0 C (inr24 _ (List.mem_of_getElem? (i := 20) rfl)) mwJ13_bitCount_95d88 hdJ13_bitCount_95d88 ⟨Nat.le_of_ble_eq_true rfl, Nat.le_of_ble_eq_true rfl⟩) rfl hl.1 rfl (Nat.le_of_ble_eq_true rfl) ⟨Nat.zero_le _, Nat.zero_le _⟩ (dk_at dkX1_land 35 rfl) ?_
      refine lv_bipush (v := 12) C.1 C.2.1 (dk_at dkX1_land 36 rfl) (by decide) ?_
      refine lv_icmp_ge (tgt := 83) C.1 C.2.1 (dk_at dkX1_land 37 rfl) (by decide) (fun c20 => ?_) (fun c20 => ?_)
      · have hf := (if_pos c20).symm.trans hf
        cases hf
        exact fin _ _ _ _ (dk_at dkX1_land 49 rfl) w
      · have hf := (if_neg c20).symm.trans hf
        refine lv_aload_n C.1 C.2.1 (dk_at dkX1_land 38 rfl) rfl (lv_at hl 1 rfl) ?_
        refine lv_dup C.1 C.2.1 (dk_at dkX1_land 39 rfl) rfl ?_
        refine r_get (v := .long (dW d_14)) C hK w.1 (fun w h => List.mem_cons_of_mem _ (inlX1 w h)) 0 rfl rfl 3 (by decide) (List.mem_cons_of_mem _ (inr23 _ (List.mem_of_getElem? (i := 17) rfl))) rfl (dk_at dkX1_land 40 rfl) ?_
        refine lv_lconst (v := 1) C.1 C.2.1 (dk_at dkX1_land 41 rfl) (by decide) ?_
        refine lv_aload_n C.1 C.2.1 (dk_at dkX1_land 42 rfl) rfl (lv_at hl 1 rfl) ?_
        refine r_get (v := .ref (a_d 1)) C hK w.1 (fun w h => List.mem_cons_of_mem _ (inlX1 w h)) 0 rfl rfl 0 (by decide) (List.mem_cons_of_mem _ (inr3 _ (List.mem_of_getElem? (i := 15) rfl))) rfl (dk_at dkX1_land 43 rfl) ?_
        refine lv_iload_n C.1 C.2.1 (dk_at dkX1_land 44 rfl) rfl (lv_at hl 2 rfl) ?_
        obtain ⟨h21, hf⟩ := gd_at hf
        refine r_iald (k := p2.toNatClampNeg) (f := (dPl d_14)) C hK w.1 1 rfl h21 rfl (dk_at dkX1_land 45 rfl) ?_
        refine lv_lshl C.1 C.2.1 (dk_at dkX1_land 46 rfl) rfl ?_
        refine lv_lor C.1 C.2.1 (dk_at dkX1_land 47 rfl) ?_
        refine lv_topl (fun x22 ex22 => ?_)
        have hf := nm_at ex22 hf
        refine r_put (v := .long x22) C hK w (fun w h => List.mem_cons_of_mem _ (inlX1 w h)) tyX1 tyX1_ok nmX1 0 rfl rfl 3 (by decide) (List.mem_cons_of_mem _ (inr23 _ (List.mem_of_getElem? (i := 17) rfl))) rfl rfl rfl (Nat.le_of_ble_eq_true rfl) (dk_at dkX1_land 48 rfl) (fun H locs w => ?_)
        obtain ⟨d_23, ed_23⟩ : ∃ z : DT, z = dW' d_14 x22 := ⟨_, rfl⟩
        have hf := nm_at ed_23 hf
        have w : Wd g A Z.heap (wD g a_d d_23 ++ wC g a_c c) H locs := by rw [ed_23]; exact w
        cases hf
        exact fin _ _ _ _ (dk_at dkX1_land 49 rfl) w
  clear hf
  have hf := hq15
  refine lv_if_eq (tgt := 49) C.1 C.2.1 (dk_at dkX1_land 24 rfl) (by decide) (fun c24 => ?_) (fun c24 => ?_)
  · have hf := (if_pos c24).symm.trans hf
    cases hf
    exact J16 _ _ _ w (lv_sub hl [1, 2, 4] rfl)
  · have hf := (if_neg c24).symm.trans hf
    refine lv_aload_n C.1 C.2.1 (dk_at dkX1_land 25 rfl) rfl (lv_at hl 2 rfl) ?_
    refine r_get (v := .ref (a_d 1)) C hK w.1 (fun w h => List.mem_cons_of_mem _ (inlX1 w h)) 0 rfl rfl 0 (by decide) (List.mem_cons_of_mem _ (inr3 _ (List.mem_of_getElem? (i := 15) rfl))) rfl (dk_at dkX1_land 26 rfl) ?_
    refine lv_iload_n C.1 C.2.1 (dk_at dkX1_land 27 rfl) rfl (lv_at hl 4 rfl) ?_
    refine lv_iload C.1 C.2.1 (dk_at dkX1_land 28 rfl) (lv_at hl 0 rfl) ?_
    obtain ⟨h25, hf⟩ := gd_at hf
    refine r_iast (k := p2.toNatClampNeg) (f := (dPl d)) C hK w 1 rfl h25 rfl (dk_at dkX1_land 29 rfl) (fun H locs w => ?_)
    obtain ⟨d_26, ed_26⟩ : ∃ z : DT, z = dPl' d (upd (dPl d) p2.toNatClampNeg r10) := ⟨_, rfl⟩
    have hf := nm_at ed_26 hf
    have w : Wd g A Z.heap (wD g a_d d_26 ++ wC g a_c c) H locs := by rw [ed_26]; exact w
    cases hf
    exact J16 _ _ _ w (lv_sub hl [1, 2, 4] rfl)
-- X1.pass
abbrev tbX1_pass : List (Nat × Instr × Nat) := [(0, .aload_n 0, 1), (1, .aload_n 1, 1), (2, .invokevirtual 27, 3), (5, .iconst 0, 1), (6, .istore_n 2, 1), (7, .iload_n 2, 1), (8, .aload_n 0, 1), (9, .getfield 31, 3), (12, .if_icmp .ge 31, 3), (15, .aload_n 0, 1), (16, .aload_n 1, 1), (17, .aload_n 0, 1), (18, .getfield 24, 3), (21, .iload_n 2, 1), (22, .iaload, 1), (23, .invokevirtual 35, 3), (26, .aload_n 0, 1), (27, .aload_n 1, 1), (28, .aload_n 0, 1), (29, .getfield 24, 3), (32, .iload_n 2, 1), (33, .iaload, 1), (34, .invokevirtual 39, 3), (37, .iinc 2 1, 3), (40, .goto (-33), 3), (43, .return_, 1)]
theorem dkX1_pass : dk cX1_pass tbX1_pass := dk_of (by decide +kernel)
abbrev cdX1_pass : Cond := Cond.code yX1_pass cX1_pass 3 none
abbrev rmX1_pass : Room := { frames := 3, cells := 0, slots := 0, locals := 71 }
theorem mwX1_pass : Cond.instanceMethod yX1_pass ∈ wsL_law ∧ Cond.selects RX1 yX1_pass yX1_pass ∈ wsL_law ∧ Cond.initialized RX1 ∈ wsL_law ∧ cdX1_pass ∈ wsL_law := ⟨inr23 _ (List.mem_of_getElem? (i := 8) rfl), inr23 _ (List.mem_of_getElem? (i := 9) rfl), inr1 _ (List.mem_of_getElem? (i := 23) rfl), inr23 _ (List.mem_of_getElem? (i := 10) rfl)⟩
theorem hdX1_pass : yX1_pass.cls = RX1 ∧ yX1_pass.cls ≠ "java/lang/invoke/MethodHandle" ∧ yX1_pass.cls ≠ "java/lang/invoke/VarHandle" ∧ (parseMethodDescriptor yX1_pass.desc).map (fun d => d.parameters.length) = some 1 := by decide +kernel
set_option maxHeartbeats 4000000 in
set_option maxRecDepth 100000 in
theorem kX1_pass (l : Launch) (g : Gx) (sz : Nat) (a_d a_c : Nat → Nat) (d : DT) (c : CT) (d_o : DT) (hf : fX1_pass d c = some d_o) : Met l yX1_pass (cdX1_pass :: wsL_law) rmX1_pass (va_Pc [.ref (a_d 0), .ref (a_c 0)] (RWp g sz (wD g a_d d ++ wC g a_c c))) (va_Qv (fun _ : Unit => True) (fun _ => RWq g (va_A (wD g a_d d ++ wC g a_c c) sz) (wD g a_d d_o ++ wC g a_c c)) (va_A (wD g a_d d ++ wC g a_c c) sz)) 0 0 (va_A (wD g a_d d ++ wC g a_c c) sz) := by
  refine Met_rwv (cc := cX1_pass) (maxL := 3) (by decide) rfl (Nat.le_of_ble_eq_true rfl) ?_
  intro P E Z Mi AR BE ME CO A Q C hK hA fin w ls hl
  have hl : lv_has ls 3 [(0, .ref (a_d 0)), (1, .ref (a_c 0))] := hl
  unfold fX1_pass at hf
  refine lv_aload_n C.1 C.2.1 (dk_at dkX1_pass 0 rfl) rfl (lv_at hl 0 rfl) ?_
  refine lv_aload_n C.1 C.2.1 (dk_at dkX1_pass 1 rfl) rfl (lv_at hl 1 rfl) ?_
  obtain ⟨d_1, hq2, hf⟩ := bd1_at hf
  refine r_rwv (As := [.ref (a_c 0)]) (rest := []) (wr := []) (ws' := wD g a_d d_1 ++ wC g a_c c) C (kX1_begin l g _ a_d a_c d c d_1 hq2) (cwV0 C (inr23 _ (List.mem_of_getElem? (i := 12) rfl)) mwX1_begin hdX1_begin ⟨Nat.le_of_ble_eq_true rfl, Nat.le_of_ble_eq_true rfl⟩) hK w hA [0, 1, 2, 3, 4, 5, 6, 7, 8, 9, 10, 11, 12, 13, 14, 15, 16] [] [0, 1, 2, 3, 4, 5, 6, 7, 8, 9, 10, 11, 12, 13, 14, 15, 16] (by decide) rfl rfl (by decide) (by decide) rfl (by decide) rfl rfl rfl hl.1 rfl (Nat.le_of_ble_eq_true rfl) ⟨Nat.zero_le _, Nat.zero_le _⟩ (dk_at dkX1_pass 2 rfl) (fun H locs w => ?_)
  refine lv_iconst (v := 0) C.1 C.2.1 (dk_at dkX1_pass 3 rfl) (by decide) ?_
  refine lv_istore_n (lv' := [(2, .int 0), (0, .ref (a_d 0)), (1, .ref (a_c 0))]) C.1 C.2.1 (dk_at dkX1_pass 4 rfl) rfl hl (by decide) rfl (fun ls hl => ?_)
  have L5 : ∀ (K : Int32 → DT → Option (DT)), (∀ (v3 : Int32) (d_4 : DT) (H : Heap) (locs : List Loc) (ls : Array Slot), Wd g A Z.heap (wD g a_d d_4 ++ wC g a_c c) H locs → lv_has ls 3 [] → K v3 d_4 = some d_o → W P l E rmX1_pass Z Mi AR BE ME CO H locs 0 0 Q (F0 Mi 43 ls [])) → ∀ (n : Nat), ∀ (v3 : Int32) (d_4 : DT) (H : Heap) (locs : List Loc) (ls : Array Slot), Wd g A Z.heap (wD g a_d d_4 ++ wC g a_c c) H locs → lv_has ls 3 [(2, .int v3), (0, .ref (a_d 0)), (1, .ref (a_c 0))] → fX1_pass_L7 c K n v3 d_4 = some d_o → W P l E rmX1_pass Z Mi AR BE ME CO H locs 0 0 Q (F0 Mi 7 ls []) := by
    intro K hKe n
    induction n with
    | zero => intro v3 d_4 H locs ls w hl hf; cases hf
    | succ n ih =>
      intro v3 d_4 H locs ls w hl hf
      rw [fX1_pass_L7] at hf
      refine lv_iload_n C.1 C.2.1 (dk_at dkX1_pass 5 rfl) rfl (lv_at hl 0 rfl) ?_
      refine lv_aload_n C.1 C.2.1 (dk_at dkX1_pass 6 rfl) rfl (lv_at hl 1 rfl) ?_
      refine r_get (v := .int (dSa d_4)) C hK w.1 (fun w h => List.mem_cons_of_mem _ (inlX1 w h)) 0 rfl rfl 6 (by decide) (List.mem_cons_of_mem _ (inr23 _ (List.mem_of_getElem? (i := 11) rfl))) rfl (dk_at dkX1_pass 7 rfl) ?_
      refine lv_icmp_ge (tgt := 43) C.1 C.2.1 (dk_at dkX1_pass 8 rfl) (by decide) (fun c6 => ?_) (fun c6 => ?_)
      · have hf := (if_pos c6).symm.trans hf
        exact hKe v3 d_4 _ _ _ w (lv_sub hl [] rfl) hf
      · have hf := (if_neg c6).symm.trans hf
        refine lv_aload_n C.1 C.2.1 (dk_at dkX1_pass 9 rfl) rfl (lv_at hl 1 rfl) ?_
        refine lv_aload_n C.1 C.2.1 (dk_at dkX1_pass 10 rfl) rfl (lv_at hl 2 rfl) ?_
        refine lv_aload_n C.1 C.2.1 (dk_at dkX1_pass 11 rfl) rfl (lv_at hl 1 rfl) ?_
        refine r_get (v := .ref (a_d 5)) C hK w.1 (fun w h => List.mem_cons_of_mem _ (inlX1 w h)) 0 rfl rfl 5 (by decide) (List.mem_cons_of_mem _ (inr3 _ (List.mem_of_getElem? (i := 19) rfl))) rfl (dk_at dkX1_pass 12 rfl) ?_
        refine lv_iload_n C.1 C.2.1 (dk_at dkX1_pass 13 rfl) rfl (lv_at hl 0 rfl) ?_
        obtain ⟨h7, hf⟩ := gd_at hf
        refine r_iald (k := v3.toNatClampNeg) (f := (dOr d_4)) C hK w.1 5 rfl h7 rfl (dk_at dkX1_pass 14 rfl) ?_
        refine lv_topi (fun x8 ex8 => ?_)
        have hf := nm_at ex8 hf
        obtain ⟨d_9, hq10, hf⟩ := bd1_at hf
        refine r_rwv (As := [.ref (a_c 0), .int x8]) (rest := []) (wr := []) (ws' := wD g a_d d_9 ++ wC g a_c c) C (kX1_comeDown l g _ a_d a_c d_4 c x8 d_9 hq10) (cwV0 C (inr23 _ (List.mem_of_getElem? (i := 22) rfl)) mwX1_comeDown hdX1_comeDown ⟨Nat.le_of_ble_eq_true rfl, Nat.le_of_ble_eq_true rfl⟩) hK w hA [0, 1, 2, 3, 4, 5, 6, 7, 8, 9, 10, 11, 12, 13, 14, 15, 16] [] [0, 1, 2, 3, 4, 5, 6, 7, 8, 9, 10, 11, 12, 13, 14, 15, 16] (by decide) rfl rfl (by decide) (by decide) rfl (by decide) rfl rfl rfl hl.1 rfl (Nat.le_of_ble_eq_true rfl) ⟨Nat.zero_le _, Nat.zero_le _⟩ (dk_at dkX1_pass 15 rfl) (fun H locs w => ?_)
        refine lv_aload_n C.1 C.2.1 (dk_at dkX1_pass 16 rfl) rfl (lv_at hl 1 rfl) ?_
        refine lv_aload_n C.1 C.2.1 (dk_at dkX1_pass 17 rfl) rfl (lv_at hl 2 rfl) ?_
        refine lv_aload_n C.1 C.2.1 (dk_at dkX1_pass 18 rfl) rfl (lv_at hl 1 rfl) ?_
        refine r_get (v := .ref (a_d 5)) C hK w.1 (fun w h => List.mem_cons_of_mem _ (inlX1 w h)) 0 rfl rfl 5 (by decide) (List.mem_cons_of_mem _ (inr3 _ (List.mem_of_getElem? (i := 19) rfl))) rfl (dk_at dkX1_pass 19 rfl) ?_
        refine lv_iload_n C.1 C.2.1 (dk_at dkX1_pass 20 rfl) rfl (lv_at hl 0 rfl) ?_
        obtain ⟨h11, hf⟩ := gd_at hf
        refine r_iald (k := v3.toNatClampNeg) (f := (dOr d_9)) C hK w.1 5 rfl h11 rfl (dk_at dkX1_pass 21 rfl) ?_
        refine lv_topi (fun x12 ex12 => ?_)
        have hf := nm_at ex12 hf
        obtain ⟨d_13, hq14, hf⟩ := bd1_at hf
        refine r_rwv (As := [.ref (a_c 0), .int x12]) (rest := []) (wr := []) (ws' := wD g a_d d_13 ++ wC g a_c c) C (kX1_land l g _ a_d a_c d_9 c x12 d_13 hq14) (cwV0 C (inr24 _ (List.mem_of_getElem? (i := 16) rfl)) mwX1_land hdX1_land ⟨Nat.le_of_ble_eq_true rfl, Nat.le_of_ble_eq_true rfl⟩) hK w hA [0, 1, 2, 3, 4, 5, 6, 7, 8, 9, 10, 11, 12, 13, 14, 15, 16] [] [0, 1, 2, 3, 4, 5, 6, 7, 8, 9, 10, 11, 12, 13, 14, 15, 16] (by decide) rfl rfl (by decide) (by decide) rfl (by decide) rfl rfl rfl hl.1 rfl (Nat.le_of_ble_eq_true rfl) ⟨Nat.zero_le _, Nat.zero_le _⟩ (dk_at dkX1_pass 22 rfl) (fun H locs w => ?_)
        obtain ⟨x15, ex15⟩ : ∃ z : Int32, z = v3 + 1 := ⟨_, rfl⟩
        have hf := nm_at ex15 hf
        refine lv_iinc (v := x15) (lv' := [(2, .int x15), (0, .ref (a_d 0)), (1, .ref (a_c 0))]) C.1 C.2.1 (dk_at dkX1_pass 23 rfl) hl (k := 0) rfl (by rw [ex15]; rfl) (by decide) rfl (fun ls hl => ?_)
        refine lv_goto (tgt := 7) C.1 C.2.1 (dk_at dkX1_pass 24 rfl) (by decide) ?_
        exact ih x15 d_13 _ _ _ w (lv_sub hl [0, 1, 2] rfl) hf
  refine L5 _ ?_ 4096 0 d_1 _ _ _ w (lv_sub hl [0, 1, 2] rfl) hf
  clear hf
  intro v3 d_4 H locs ls w hl hf
  cases hf
  exact fin _ _ _ _ (dk_at dkX1_pass 25 rfl) w
-- X1.passByOdds
abbrev tbX1_passByOdds : List (Nat × Instr × Nat) := [(0, .ldc2_w 42, 3), (3, .lstore 4, 2), (5, .iconst 0, 1), (6, .istore 6, 2), (8, .aload_n 0, 1), (9, .aload_n 1, 1), (10, .invokevirtual 27, 3), (13, .iconst 0, 1), (14, .istore 7, 2), (16, .iload 7, 2), (18, .aload_n 0, 1), (19, .getfield 31, 3), (22, .if_icmp .ge 149, 3), (25, .aload_n 0, 1), (26, .getfield 24, 3), (29, .iload 7, 2), (31, .iaload, 1), (32, .istore 8, 2), (34, .iload_n 3, 1), (35, .iload 8, 2), (37, .ishr, 1), (38, .iconst 1, 1), (39, .iand, 1), (40, .ifCond .eq 7, 3), (43, .iconst 1, 1), (44, .goto 4, 3), (47, .iconst 0, 1), (48, .istore 9, 2), (50, .aload_n 0, 1), (51, .aload_n 1, 1), (52, .iload 8, 2), (54, .invokevirtual 35, 3), (57, .aload_n 0, 1), (58, .getfield 15, 3), (61, .iload 8, 2), (63, .iaload, 1), (64, .istore 10, 2), (66, .aload_n 1, 1), (67, .getfield 44, 3), (70, .iload 10, 2), (72, .iaload, 1), (73, .iconst 4, 1), (74, .if_icmp .eq 13, 3), (77, .iload 6, 2), (79, .iload 10, 2), (81, .ishr, 1), (82, .iconst 1, 1), (83, .iand, 1), (84, .ifCond .eq 19, 3), (87, .iload 9, 2), (89, .ifCond .eq 7, 3), (92, .lconst 0, 1), (93, .goto 5, 3), (96, .lload 4, 2), (98, .lstore 4, 2), (100, .goto 58, 3), (103, .iload 6, 2), (105, .iconst 1, 1), (106, .iload 10, 2), (108, .ishl, 1), (109, .ior, 1), (110, .istore 6, 2), (112, .aload_n 0, 1), (113, .getfield 21, 3), (116, .iload 10, 2), (118, .iload 9, 2), (120, .ifCond .eq 7, 3), (123, .iconst 4, 1), (124, .goto 10, 3), (127, .aload_n 1, 1), (128, .getfield 44, 3), (131, .iload 10, 2), (133, .iaload, 1), (134, .iastore, 1), (135, .lload 4, 2), (137, .ldc2_w 47, 3), (140, .ldiv, 1), (141, .iload 9, 2), (143, .ifCond .eq 7, 3), (146, .iload_n 2, 1), (147, .goto 7, 3), (150, .bipush 10, 2), (152, .iload_n 2, 1), (153, .isub, 1), (154, .i2l, 1), (155, .lmul, 1), (156, .lstore 4, 2), (158, .aload_n 0, 1), (159, .aload_n 1, 1), (160, .iload 8, 2), (162, .invokevirtual 39, 3), (165, .iinc 7 1, 3), (168, .goto (-152), 3), (171, .lload 4, 2), (173, .lreturn, 1)]
theorem dkX1_passByOdds : dk cX1_passByOdds tbX1_passByOdds := dk_of (by decide +kernel)
abbrev cdX1_passByOdds : Cond := Cond.code yX1_passByOdds cX1_passByOdds 11 (some .long)
abbrev rmX1_passByOdds : Room := { frames := 3, cells := 0, slots := 0, locals := 71 }
theorem mwX1_passByOdds : Cond.instanceMethod yX1_passByOdds ∈ wsL_law ∧ Cond.selects RX1 yX1_passByOdds yX1_passByOdds ∈ wsL_law ∧ Cond.initialized RX1 ∈ wsL_law ∧ cdX1_passByOdds ∈ wsL_law := ⟨inr33 _ (List.mem_of_getElem? (i := 15) rfl), inr33 _ (List.mem_of_getElem? (i := 16) rfl), inr1 _ (List.mem_of_getElem? (i := 23) rfl), inr33 _ (List.mem_of_getElem? (i := 17) rfl)⟩
theorem hdX1_passByOdds : yX1_passByOdds.cls = RX1 ∧ yX1_passByOdds.cls ≠ "java/lang/invoke/MethodHandle" ∧ yX1_passByOdds.cls ≠ "java/lang/invoke/VarHandle" ∧ (parseMethodDescriptor yX1_passByOdds.desc).map (fun d => d.parameters.length) = some 3 := by decide +kernel
set_option maxHeartbeats 4000000 in
set_option maxRecDepth 100000 in
theorem kX1_passByOdds (l : Launch) (g : Gx) (sz : Nat) (a_d a_c : Nat → Nat) (d : DT) (c : CT) (p2 : Int32) (p3 : Int32) (res : Int64) (d_o : DT) (hf : fX1_passByOdds p2 p3 d c = some (res, d_o)) : Met l yX1_passByOdds (cdX1_passByOdds :: wsL_law) rmX1_passByOdds (va_Pc [.ref (a_d 0), .ref (a_c 0), .int p2, .int p3] (RWp g sz (wD g a_d d ++ wC g a_c c))) (va_Ql (fun x (_ : Unit) => x = res) (fun _ => RWq g (va_A (wD g a_d d ++ wC g a_c c) sz) (wD g a_d d_o ++ wC g a_c c)) (va_A (wD g a_d d ++ wC g a_c c) sz)) 0 0 (va_A (wD g a_d d ++ wC g a_c c) sz) := by
  refine Met_rwl (cc := cX1_passByOdds) (maxL := 11) (by decide) rfl (Nat.le_of_ble_eq_true rfl) ?_
  intro P E Z Mi AR BE ME CO A Q C hK hA fin w ls hl
  have hl : lv_has ls 11 [(0, .ref (a_d 0)), (1, .ref (a_c 0)), (2, .int p2), (3, .int p3)] := hl
  unfold fX1_passByOdds at hf
  refine lv_ldc2 (v := 100000) C.1 C.2.1 C.2.2.2.1 (C.2.2.2.2 _ (List.mem_cons_of_mem _ (inr33 _ (List.mem_of_getElem? (i := 18) rfl)))) (dk_at dkX1_passByOdds 0 rfl) ?_
  refine lv_lstore (lv' := [(4, .long 100000), (0, .ref (a_d 0)), (1, .ref (a_c 0)), (2, .int p2), (3, .int p3)]) C.1 C.2.1 (dk_at dkX1_passByOdds 1 rfl) hl (by decide) rfl (fun ls hl => ?_)
  refine lv_iconst (v := 0) C.1 C.2.1 (dk_at dkX1_passByOdds 2 rfl) (by decide) ?_
  refine lv_istore (lv' := [(6, .int 0), (4, .long 100000), (0, .ref (a_d 0)), (1, .ref (a_c 0)), (2, .int p2), (3, .int p3)]) C.1 C.2.1 (dk_at dkX1_passByOdds 3 rfl) hl (by decide) rfl (fun ls hl => ?_)
  refine lv_aload_n C.1 C.2.1 (dk_at dkX1_passByOdds 4 rfl) rfl (lv_at hl 2 rfl) ?_
  refine lv_aload_n C.1 C.2.1 (dk_at dkX1_passByOdds 5 rfl) rfl (lv_at hl 3 rfl) ?_
  obtain ⟨d_1, hq2, hf⟩ := bd1_at hf
  refine r_rwv (As := [.ref (a_c 0)]) (rest := []) (wr := []) (ws' := wD g a_d d_1 ++ wC g a_c c) C (kX1_begin l g _ a_d a_c d c d_1 hq2) (cwV0 C (inr23 _ (List.mem_of_getElem? (i := 12) rfl)) mwX1_begin hdX1_begin ⟨Nat.le_of_ble_eq_true rfl, Nat.le_of_ble_eq_true rfl⟩) hK w hA [0, 1, 2, 3, 4, 5, 6, 7, 8, 9, 10, 11, 12, 13, 14, 15, 16] [] [0, 1, 2, 3, 4, 5, 6, 7, 8, 9, 10, 11, 12, 13, 14, 15, 16] (by decide) rfl rfl (by decide) (by decide) rfl (by decide) rfl rfl rfl hl.1 rfl (Nat.le_of_ble_eq_true rfl) ⟨Nat.zero_le _, Nat.zero_le _⟩ (dk_at dkX1_passByOdds 6 rfl) (fun H locs w => ?_)
  refine lv_iconst (v := 0) C.1 C.2.1 (dk_at dkX1_passByOdds 7 rfl) (by decide) ?_
  refine lv_istore (lv' := [(7, .int 0), (6, .int 0), (4, .long 100000), (0, .ref (a_d 0)), (1, .ref (a_c 0)), (2, .int p2), (3, .int p3)]) C.1 C.2.1 (dk_at dkX1_passByOdds 8 rfl) hl (by decide) rfl (fun ls hl => ?_)
  have L7 : ∀ (K : Int32 → Int32 → Int64 → DT → Option (Int64 × DT)), (∀ (v3 : Int32) (v4 : Int32) (v5 : Int64) (d_6 : DT) (H : Heap) (locs : List Loc) (ls : Array Slot), Wd g A Z.heap (wD g a_d d_6 ++ wC g a_c c) H locs → lv_has ls 11 [(4, .long v5)] → K v3 v4 v5 d_6 = some (res, d_o) → W P l E rmX1_passByOdds Z Mi AR BE ME CO H locs 0 0 Q (F0 Mi 171 ls [])) → ∀ (n : Nat), ∀ (v3 : Int32) (v4 : Int32) (v5 : Int64) (d_6 : DT) (H : Heap) (locs : List Loc) (ls : Array Slot), Wd g A Z.heap (wD g a_d d_6 ++ wC g a_c c) H locs → lv_has ls 11 [(7, .int v3), (6, .int v4), (4, .long v5), (0, .ref (a_d 0)), (1, .ref (a_c 0)), (2, .int p2), (3, .int p3)] → fX1_passByOdds_L16 c p2 p3 K n v3 v4 v5 d_6 = some (res, d_o) → W P l E rmX1_passByOdds Z Mi AR BE ME CO H locs 0 0 Q (F0 Mi 16 ls []) := by
    intro K hKe n
    induction n with
    | zero => intro v3 v4 v5 d_6 H locs ls w hl hf; cases hf
    | succ n ih =>
      intro v3 v4 v5 d_6 H locs ls w hl hf
      rw [fX1_passByOdds_L16] at hf
      refine lv_iload C.1 C.2.1 (dk_at dkX1_passByOdds 9 rfl) (lv_at hl 0 rfl) ?_
      refine lv_aload_n C.1 C.2.1 (dk_at dkX1_passByOdds 10 rfl) rfl (lv_at hl 3 rfl) ?_
      refine r_get (v := .int (dSa d_6)) C hK w.1 (fun w h => List.mem_cons_of_mem _ (inlX1 w h)) 0 rfl rfl 6 (by decide) (List.mem_cons_of_mem _ (inr23 _ (List.mem_of_getElem? (i := 11) rfl))) rfl (dk_at dkX1_passByOdds 11 rfl) ?_
      refine lv_icmp_ge (tgt := 171) C.1 C.2.1 (dk_at dkX1_passByOdds 12 rfl) (by decide) (fun c8 => ?_) (fun c8 => ?_)
      · have hf := (if_pos c8).symm.trans hf
        exact hKe v3 v4 v5 d_6 _ _ _ w (lv_sub hl [2] rfl) hf
      · have hf := (if_neg c8).symm.trans hf
        refine lv_aload_n C.1 C.2.1 (dk_at dkX1_passByOdds 13 rfl) rfl (lv_at hl 3 rfl) ?_
        refine r_get (v := .ref (a_d 5)) C hK w.1 (fun w h => List.mem_cons_of_mem _ (inlX1 w h)) 0 rfl rfl 5 (by decide) (List.mem_cons_of_mem _ (inr3 _ (List.mem_of_getElem? (i := 19) rfl))) rfl (dk_at dkX1_passByOdds 14 rfl) ?_
        refine lv_iload C.1 C.2.1 (dk_at dkX1_passByOdds 15 rfl) (lv_at hl 0 rfl) ?_
        obtain ⟨h9, hf⟩ := gd_at hf
        refine r_iald (k := v3.toNatClampNeg) (f := (dOr d_6)) C hK w.1 5 rfl h9 rfl (dk_at dkX1_passByOdds 16 rfl) ?_
        refine lv_topi (fun x10 ex10 => ?_)
        have hf := nm_at ex10 hf
        refine lv_istore (lv' := [(8, .int x10), (7, .int v3), (6, .int v4), (4, .long v5), (0, .ref (a_d 0)), (1, .ref (a_c 0)), (2, .int p2), (3, .int p3)]) C.1 C.2.1 (dk_at dkX1_passByOdds 17 rfl) hl (by decide) rfl (fun ls hl => ?_)
        refine lv_iload_n C.1 C.2.1 (dk_at dkX1_passByOdds 18 rfl) rfl (lv_at hl 7 rfl) ?_
        refine lv_iload C.1 C.2.1 (dk_at dkX1_passByOdds 19 rfl) (lv_at hl 0 rfl) ?_
        refine lv_ishr C.1 C.2.1 (dk_at dkX1_passByOdds 20 rfl) ?_
        refine lv_topi (fun x11 ex11 => ?_)
        have hf := nm_at ex11 hf
        refine lv_iconst (v := 1) C.1 C.2.1 (dk_at dkX1_passByOdds 21 rfl) (by decide) ?_
        refine lv_iand C.1 C.2.1 (dk_at dkX1_passByOdds 22 rfl) ?_
        obtain ⟨y12, hq13, hf⟩ := bd1_at hf
        have J14 : ∀ (H : Heap) (locs : List Loc) (ls : Array Slot), Wd g A Z.heap (wD g a_d d_6 ++ wC g a_c c) H locs → lv_has ls 11 [(8, .int x10), (7, .int v3), (6, .int v4), (4, .long v5), (0, .ref (a_d 0)), (1, .ref (a_c 0)), (2, .int p2), (3, .int p3)] → W P l E rmX1_passByOdds Z Mi AR BE ME CO H locs 0 0 Q (F0 Mi 48 ls [.int y12]) := by
          intro H locs ls w hl
          refine lv_istore (lv' := [(9, .int y12), (8, .int x10), (7, .int v3), (6, .int v4), (4, .long v5), (0, .ref (a_d 0)), (1, .ref (a_c 0)), (2, .int p2), (3, .int p3)]) C.1 C.2.1 (dk_at dkX1_passByOdds 27 rfl) hl (by decide) rfl (fun ls hl => ?_)
          refine lv_aload_n C.1 C.2.1 (dk_at dkX1_passByOdds 28 rfl) rfl (lv_at hl 5 rfl) ?_
          refine lv_aload_n C.1 C.2.1 (dk_at dkX1_passByOdds 29 rfl) rfl (lv_at hl 6 rfl) ?_
          refine lv_iload C.1 C.2.1 (dk_at dkX1_passByOdds 30 rfl) (lv_at hl 1 rfl) ?_
          obtain ⟨d_15, hq16, hf⟩ := bd1_at hf
          refine r_rwv (As := [.ref (a_c 0), .int x10]) (rest := []) (wr := []) (ws' := wD g a_d d_15 ++ wC g a_c c) C (kX1_comeDown l g _ a_d a_c d_6 c x10 d_15 hq16) (cwV0 C (inr23 _ (List.mem_of_getElem? (i := 22) rfl)) mwX1_comeDown hdX1_comeDown ⟨Nat.le_of_ble_eq_true rfl, Nat.le_of_ble_eq_true rfl⟩) hK w hA [0, 1, 2, 3, 4, 5, 6, 7, 8, 9, 10, 11, 12, 13, 14, 15, 16] [] [0, 1, 2, 3, 4, 5, 6, 7, 8, 9, 10, 11, 12, 13, 14, 15, 16] (by decide) rfl rfl (by decide) (by decide) rfl (by decide) rfl rfl rfl hl.1 rfl (Nat.le_of_ble_eq_true rfl) ⟨Nat.zero_le _, Nat.zero_le _⟩ (dk_at dkX1_passByOdds 31 rfl) (fun H locs w => ?_)
          refine lv_aload_n C.1 C.2.1 (dk_at dkX1_passByOdds 32 rfl) rfl (lv_at hl 5 rfl) ?_
          refine r_get (v := .ref (a_d 2)) C hK w.1 (fun w h => List.mem_cons_of_mem _ (inlX1 w h)) 0 rfl rfl 1 (by decide) (List.mem_cons_of_mem _ (inr3 _ (List.mem_of_getElem? (i := 16) rfl))) rfl (dk_at dkX1_passByOdds 33 rfl) ?_
          refine lv_iload C.1 C.2.1 (dk_at dkX1_passByOdds 34 rfl) (lv_at hl 1 rfl) ?_
          obtain ⟨h17, hf⟩ := gd_at hf
          refine r_iald (k := x10.toNatClampNeg) (f := (dHo d_15)) C hK w.1 2 rfl h17 rfl (dk_at dkX1_passByOdds 35 rfl) ?_
          refine lv_topi (fun x18 ex18 => ?_)
          have hf := nm_at ex18 hf
          refine lv_istore (lv' := [(10, .int x18), (9, .int y12), (8, .int x10), (7, .int v3), (6, .int v4), (4, .long v5), (0, .ref (a_d 0)), (1, .ref (a_c 0)), (2, .int p2), (3, .int p3)]) C.1 C.2.1 (dk_at dkX1_passByOdds 36 rfl) hl (by decide) rfl (fun ls hl => ?_)
          refine lv_aload_n C.1 C.2.1 (dk_at dkX1_passByOdds 37 rfl) rfl (lv_at hl 7 rfl) ?_
          refine r_get (v := .ref (a_c 1)) C hK w.1 (fun w h => List.mem_cons_of_mem _ (inlX0 w h)) 6 rfl rfl 1 (by decide) (List.mem_cons_of_mem _ (inr23 _ (List.mem_of_getElem? (i := 19) rfl))) rfl (dk_at dkX1_passByOdds 38 rfl) ?_
          refine lv_iload C.1 C.2.1 (dk_at dkX1_passByOdds 39 rfl) (lv_at hl 0 rfl) ?_
          obtain ⟨h19, hf⟩ := gd_at hf
          refine r_iald (k := x18.toNatClampNeg) (f := (cWi c)) C hK w.1 7 rfl h19 rfl (dk_at dkX1_passByOdds 40 rfl) ?_
          refine lv_topi (fun x20 ex20 => ?_)
          have hf := nm_at ex20 hf
          refine lv_iconst (v := 4) C.1 C.2.1 (dk_at dkX1_passByOdds 41 rfl) (by decide) ?_
          obtain ⟨y21, y22, d_23, hq24, hf⟩ := bd3_at hf
          have J25 : ∀ (H : Heap) (locs : List Loc) (ls : Array Slot), Wd g A Z.heap (wD g a_d d_23 ++ wC g a_c c) H locs → lv_has ls 11 [(4, .long y21), (6, .int y22), (8, .int x10), (7, .int v3), (0, .ref (a_d 0)), (1, .ref (a_c 0)), (2, .int p2), (3, .int p3)] → W P l E rmX1_passByOdds Z Mi AR BE ME CO H locs 0 0 Q (F0 Mi 158 ls []) := by
            intro H locs ls w hl
            refine lv_aload_n C.1 C.2.1 (dk_at dkX1_passByOdds 87 rfl) rfl (lv_at hl 4 rfl) ?_
            refine lv_aload_n C.1 C.2.1 (dk_at dkX1_passByOdds 88 rfl) rfl (lv_at hl 5 rfl) ?_
            refine lv_iload C.1 C.2.1 (dk_at dkX1_passByOdds 89 rfl) (lv_at hl 2 rfl) ?_
            obtain ⟨d_26, hq27, hf⟩ := bd1_at hf
            refine r_rwv (As := [.ref (a_c 0), .int x10]) (rest := []) (wr := []) (ws' := wD g a_d d_26 ++ wC g a_c c) C (kX1_land l g _ a_d a_c d_23 c x10 d_26 hq27) (cwV0 C (inr24 _ (List.mem_of_getElem? (i := 16) rfl)) mwX1_land hdX1_land ⟨Nat.le_of_ble_eq_true rfl, Nat.le_of_ble_eq_true rfl⟩) hK w hA [0, 1, 2, 3, 4, 5, 6, 7, 8, 9, 10, 11, 12, 13, 14, 15, 16] [] [0, 1, 2, 3, 4, 5, 6, 7, 8, 9, 10, 11, 12, 13, 14, 15, 16] (by decide) rfl rfl (by decide) (by decide) rfl (by decide) rfl rfl rfl hl.1 rfl (Nat.le_of_ble_eq_true rfl) ⟨Nat.zero_le _, Nat.zero_le _⟩ (dk_at dkX1_passByOdds 90 rfl) (fun H locs w => ?_)
            obtain ⟨x28, ex28⟩ : ∃ z : Int32, z = v3 + 1 := ⟨_, rfl⟩
            have hf := nm_at ex28 hf
            refine lv_iinc (v := x28) (lv' := [(7, .int x28), (4, .long y21), (6, .int y22), (8, .int x10), (0, .ref (a_d 0)), (1, .ref (a_c 0)), (2, .int p2), (3, .int p3)]) C.1 C.2.1 (dk_at dkX1_passByOdds 91 rfl) hl (k := 3) rfl (by rw [ex28]; rfl) (by decide) rfl (fun ls hl => ?_)
            refine lv_goto (tgt := 16) C.1 C.2.1 (dk_at dkX1_passByOdds 92 rfl) (by decide) ?_
            exact ih x28 y22 y21 d_26 _ _ _ w (lv_sub hl [0, 2, 1, 4, 5, 6, 7] rfl) hf
          clear hf
          have hf := hq24
          refine lv_icmp_eq (tgt := 87) C.1 C.2.1 (dk_at dkX1_passByOdds 42 rfl) (by decide) (fun c29 => ?_) (fun c29 => ?_)
          · have hf := (if_pos c29).symm.trans hf
            refine lv_iload C.1 C.2.1 (dk_at dkX1_passByOdds 49 rfl) (lv_at hl 1 rfl) ?_
            refine lv_if_eq (tgt := 96) C.1 C.2.1 (dk_at dkX1_passByOdds 50 rfl) (by decide) (fun c30 => ?_) (fun c30 => ?_)
            · have hf := (if_pos c30).symm.trans hf
              refine lv_lload C.1 C.2.1 (dk_at dkX1_passByOdds 53 rfl) (lv_at hl 5 rfl) ?_
              refine lv_lstore (lv' := [(4, .long v5), (10, .int x18), (9, .int y12), (8, .int x10), (7, .int v3), (6, .int v4), (0, .ref (a_d 0)), (1, .ref (a_c 0)), (2, .int p2), (3, .int p3)]) C.1 C.2.1 (dk_at dkX1_passByOdds 54 rfl) hl (by decide) rfl (fun ls hl => ?_)
              refine lv_goto (tgt := 158) C.1 C.2.1 (dk_at dkX1_passByOdds 55 rfl) (by decide) ?_
              cases hf
              exact J25 _ _ _ w (lv_sub hl [0, 5, 3, 4, 6, 7, 8, 9] rfl)
            · have hf := (if_neg c30).symm.trans hf
              refine lv_lconst (v := 0) C.1 C.2.1 (dk_at dkX1_passByOdds 51 rfl) (by decide) ?_
              refine lv_goto (tgt := 98) C.1 C.2.1 (dk_at dkX1_passByOdds 52 rfl) (by decide) ?_
              refine lv_lstore (lv' := [(4, .long 0), (10, .int x18), (9, .int y12), (8, .int x10), (7, .int v3), (6, .int v4), (0, .ref (a_d 0)), (1, .ref (a_c 0)), (2, .int p2), (3, .int p3)]) C.1 C.2.1 (dk_at dkX1_passByOdds 54 rfl) hl (by decide) rfl (fun ls hl => ?_)
              refine lv_goto (tgt := 158) C.1 C.2.1 (dk_at dkX1_passByOdds 55 rfl) (by decide) ?_
              cases hf
              exact J25 _ _ _ w (lv_sub hl [0, 5, 3, 4, 6, 7, 8, 9] rfl)
          · have hf := (if_neg c29).symm.trans hf
            refine lv_iload C.1 C.2.1 (dk_at dkX1_passByOdds 43 rfl) (lv_at hl 4 rfl) ?_
            refine lv_iload C.1 C.2.1 (dk_at dkX1_passByOdds 44 rfl) (lv_at hl 0 rfl) ?_
            refine lv_ishr C.1 C.2.1 (dk_at dkX1_passByOdds 45 rfl) ?_
            refine lv_topi (fun x31 ex31 => ?_)
            have hf := nm_at ex31 hf
            refine lv_iconst (v := 1) C.1 C.2.1 (dk_at dkX1_passByOdds 46 rfl) (by decide) ?_
            refine lv_iand C.1 C.2.1 (dk_at dkX1_passByOdds 47 rfl) ?_
            refine lv_if_eq (tgt := 103) C.1 C.2.1 (dk_at dkX1_passByOdds 48 rfl) (by decide) (fun c32 => ?_) (fun c32 => ?_)
            · have hf := (if_pos c32).symm.trans hf
              refine lv_iload C.1 C.2.1 (dk_at dkX1_passByOdds 56 rfl) (lv_at hl 4 rfl) ?_
              refine lv_iconst (v := 1) C.1 C.2.1 (dk_at dkX1_passByOdds 57 rfl) (by decide) ?_
              refine lv_iload C.1 C.2.1 (dk_at dkX1_passByOdds 58 rfl) (lv_at hl 0 rfl) ?_
              refine lv_ishl C.1 C.2.1 (dk_at dkX1_passByOdds 59 rfl) ?_
              refine lv_ior C.1 C.2.1 (dk_at dkX1_passByOdds 60 rfl) ?_
              refine lv_topi (fun x33 ex33 => ?_)
              have hf := nm_at ex33 hf
              refine lv_istore (lv' := [(6, .int x33), (10, .int x18), (9, .int y12), (8, .int x10), (7, .int v3), (4, .long v5), (0, .ref (a_d 0)), (1, .ref (a_c 0)), (2, .int p2), (3, .int p3)]) C.1 C.2.1 (dk_at dkX1_passByOdds 61 rfl) hl (by decide) rfl (fun ls hl => ?_)
              refine lv_aload_n C.1 C.2.1 (dk_at dkX1_passByOdds 62 rfl) rfl (lv_at hl 6 rfl) ?_
              refine r_get (v := .ref (a_d 4)) C hK w.1 (fun w h => List.mem_cons_of_mem _ (inlX1 w h)) 0 rfl rfl 4 (by decide) (List.mem_cons_of_mem _ (inr3 _ (List.mem_of_getElem? (i := 18) rfl))) rfl (dk_at dkX1_passByOdds 63 rfl) ?_
              refine lv_iload C.1 C.2.1 (dk_at dkX1_passByOdds 64 rfl) (lv_at hl 1 rfl) ?_
              refine lv_iload C.1 C.2.1 (dk_at dkX1_passByOdds 65 rfl) (lv_at hl 2 rfl) ?_
              obtain ⟨y34, hq35, hf⟩ := bd1_at hf
              have J36 : ∀ (H : Heap) (locs : List Loc) (ls : Array Slot), Wd g A Z.heap (wD g a_d d_15 ++ wC g a_c c) H locs → lv_has ls 11 [(6, .int x33), (9, .int y12), (8, .int x10), (7, .int v3), (4, .long v5), (0, .ref (a_d 0)), (1, .ref (a_c 0)), (2, .int p2), (3, .int p3)] → W P l E rmX1_passByOdds Z Mi AR BE ME CO H locs 0 0 Q (F0 Mi 134 ls [.int y34, .int x18, .ref (a_d 4)]) := by
                intro H locs ls w hl
                obtain ⟨h37, hf⟩ := gd_at hf
                refine r_iast (k := x18.toNatClampNeg) (f := (dWi d_15)) C hK w 4 rfl h37 rfl (dk_at dkX1_passByOdds 73 rfl) (fun H locs w => ?_)
                obtain ⟨d_38, ed_38⟩ : ∃ z : DT, z = dWi' d_15 (upd (dWi d_15) x18.toNatClampNeg y34) := ⟨_, rfl⟩
                have hf := nm_at ed_38 hf
                have w : Wd g A Z.heap (wD g a_d d_38 ++ wC g a_c c) H locs := by rw [ed_38]; exact w
                refine lv_lload C.1 C.2.1 (dk_at dkX1_passByOdds 74 rfl) (lv_at hl 4 rfl) ?_
                refine lv_ldc2 (v := 10) C.1 C.2.1 C.2.2.2.1 (C.2.2.2.2 _ (List.mem_cons_of_mem _ (inr33 _ (List.mem_of_getElem? (i := 19) rfl)))) (dk_at dkX1_passByOdds 75 rfl) ?_
                refine lv_ldiv C.1 C.2.1 (dk_at dkX1_passByOdds 76 rfl) (by decide) ?_
                refine lv_topl (fun x39 ex39 => ?_)
                have hf := nm_at ex39 hf
                refine lv_iload C.1 C.2.1 (dk_at dkX1_passByOdds 77 rfl) (lv_at hl 1 rfl) ?_
                refine lv_if_eq (tgt := 150) C.1 C.2.1 (dk_at dkX1_passByOdds 78 rfl) (by decide) (fun c40 => ?_) (fun c40 => ?_)
                · have hf := (if_pos c40).symm.trans hf
                  refine lv_bipush (v := 10) C.1 C.2.1 (dk_at dkX1_passByOdds 81 rfl) (by decide) ?_
                  refine lv_iload_n C.1 C.2.1 (dk_at dkX1_passByOdds 82 rfl) rfl (lv_at hl 7 rfl) ?_
                  refine lv_isub C.1 C.2.1 (dk_at dkX1_passByOdds 83 rfl) ?_
                  refine lv_i2l C.1 C.2.1 (dk_at dkX1_passByOdds 84 rfl) rfl ?_
                  refine lv_lmul C.1 C.2.1 (dk_at dkX1_passByOdds 85 rfl) ?_
                  refine lv_topl (fun x41 ex41 => ?_)
                  have hf := nm_at ex41 hf
                  refine lv_lstore (lv' := [(4, .long x41), (6, .int x33), (9, .int y12), (8, .int x10), (7, .int v3), (0, .ref (a_d 0)), (1, .ref (a_c 0)), (2, .int p2), (3, .int p3)]) C.1 C.2.1 (dk_at dkX1_passByOdds 86 rfl) hl (by decide) rfl (fun ls hl => ?_)
                  cases hf
                  exact J25 _ _ _ w (lv_sub hl [0, 1, 3, 4, 5, 6, 7, 8] rfl)
                · have hf := (if_neg c40).symm.trans hf
                  refine lv_iload_n C.1 C.2.1 (dk_at dkX1_passByOdds 79 rfl) rfl (lv_at hl 7 rfl) ?_
                  refine lv_goto (tgt := 154) C.1 C.2.1 (dk_at dkX1_passByOdds 80 rfl) (by decide) ?_
                  refine lv_i2l C.1 C.2.1 (dk_at dkX1_passByOdds 84 rfl) rfl ?_
                  refine lv_lmul C.1 C.2.1 (dk_at dkX1_passByOdds 85 rfl) ?_
                  refine lv_topl (fun x42 ex42 => ?_)
                  have hf := nm_at ex42 hf
                  refine lv_lstore (lv' := [(4, .long x42), (6, .int x33), (9, .int y12), (8, .int x10), (7, .int v3), (0, .ref (a_d 0)), (1, .ref (a_c 0)), (2, .int p2), (3, .int p3)]) C.1 C.2.1 (dk_at dkX1_passByOdds 86 rfl) hl (by decide) rfl (fun ls hl => ?_)
                  cases hf
                  exact J25 _ _ _ w (lv_sub hl [0, 1, 3, 4, 5, 6, 7, 8] rfl)
              clear hf
              have hf := hq35
              refine lv_if_eq (tgt := 127) C.1 C.2.1 (dk_at dkX1_passByOdds 66 rfl) (by decide) (fun c43 => ?_) (fun c43 => ?_)
              · have hf := (if_pos c43).symm.trans hf
                refine lv_aload_n C.1 C.2.1 (dk_at dkX1_passByOdds 69 rfl) rfl (lv_at hl 7 rfl) ?_
                refine r_get (v := .ref (a_c 1)) C hK w.1 (fun w h => List.mem_cons_of_mem _ (inlX0 w h)) 6 rfl rfl 1 (by decide) (List.mem_cons_of_mem _ (inr23 _ (List.mem_of_getElem? (i := 19) rfl))) rfl (dk_at dkX1_passByOdds 70 rfl) ?_
                refine lv_iload C.1 C.2.1 (dk_at dkX1_passByOdds 71 rfl) (lv_at hl 1 rfl) ?_
                obtain ⟨h44, hf⟩ := gd_at hf
                refine r_iald (k := x18.toNatClampNeg) (f := (cWi c)) C hK w.1 7 rfl h44 rfl (dk_at dkX1_passByOdds 72 rfl) ?_
                refine lv_topi (fun x45 ex45 => ?_)
                have hf := nm_at ex45 hf
                cases hf
                exact J36 _ _ _ w (lv_sub hl [0, 2, 3, 4, 5, 6, 7, 8, 9] rfl)
              · have hf := (if_neg c43).symm.trans hf
                refine lv_iconst (v := 4) C.1 C.2.1 (dk_at dkX1_passByOdds 67 rfl) (by decide) ?_
                refine lv_goto (tgt := 134) C.1 C.2.1 (dk_at dkX1_passByOdds 68 rfl) (by decide) ?_
                cases hf
                exact J36 _ _ _ w (lv_sub hl [0, 2, 3, 4, 5, 6, 7, 8, 9] rfl)
            · have hf := (if_neg c32).symm.trans hf
              refine lv_iload C.1 C.2.1 (dk_at dkX1_passByOdds 49 rfl) (lv_at hl 1 rfl) ?_
              refine lv_if_eq (tgt := 96) C.1 C.2.1 (dk_at dkX1_passByOdds 50 rfl) (by decide) (fun c46 => ?_) (fun c46 => ?_)
              · have hf := (if_pos c46).symm.trans hf
                refine lv_lload C.1 C.2.1 (dk_at dkX1_passByOdds 53 rfl) (lv_at hl 5 rfl) ?_
                refine lv_lstore (lv' := [(4, .long v5), (10, .int x18), (9, .int y12), (8, .int x10), (7, .int v3), (6, .int v4), (0, .ref (a_d 0)), (1, .ref (a_c 0)), (2, .int p2), (3, .int p3)]) C.1 C.2.1 (dk_at dkX1_passByOdds 54 rfl) hl (by decide) rfl (fun ls hl => ?_)
                refine lv_goto (tgt := 158) C.1 C.2.1 (dk_at dkX1_passByOdds 55 rfl) (by decide) ?_
                cases hf
                exact J25 _ _ _ w (lv_sub hl [0, 5, 3, 4, 6, 7, 8, 9] rfl)
              · have hf := (if_neg c46).symm.trans hf
                refine lv_lconst (v := 0) C.1 C.2.1 (dk_at dkX1_passByOdds 51 rfl) (by decide) ?_
                refine lv_goto (tgt := 98) C.1 C.2.1 (dk_at dkX1_passByOdds 52 rfl) (by decide) ?_
                refine lv_lstore (lv' := [(4, .long 0), (10, .int x18), (9, .int y12), (8, .int x10), (7, .int v3), (6, .int v4), (0, .ref (a_d 0)), (1, .ref (a_c 0)), (2, .int p2), (3, .int p3)]) C.1 C.2.1 (dk_at dkX1_passByOdds 54 rfl) hl (by decide) rfl (fun ls hl => ?_)
                refine lv_goto (tgt := 158) C.1 C.2.1 (dk_at dkX1_passByOdds 55 rfl) (by decide) ?_
                cases hf
                exact J25 _ _ _ w (lv_sub hl [0, 5, 3, 4, 6, 7, 8, 9] rfl)
        clear hf
        have hf := hq13
        refine lv_if_eq (tgt := 47) C.1 C.2.1 (dk_at dkX1_passByOdds 23 rfl) (by decide) (fun c47 => ?_) (fun c47 => ?_)
        · have hf := (if_pos c47).symm.trans hf
          refine lv_iconst (v := 0) C.1 C.2.1 (dk_at dkX1_passByOdds 26 rfl) (by decide) ?_
          cases hf
          exact J14 _ _ _ w (lv_sub hl [0, 1, 2, 3, 4, 5, 6, 7] rfl)
        · have hf := (if_neg c47).symm.trans hf
          refine lv_iconst (v := 1) C.1 C.2.1 (dk_at dkX1_passByOdds 24 rfl) (by decide) ?_
          refine lv_goto (tgt := 48) C.1 C.2.1 (dk_at dkX1_passByOdds 25 rfl) (by decide) ?_
          cases hf
          exact J14 _ _ _ w (lv_sub hl [0, 1, 2, 3, 4, 5, 6, 7] rfl)
  refine L7 _ ?_ 4096 0 0 100000 d_1 _ _ _ w (lv_sub hl [0, 1, 2, 3, 4, 5, 6] rfl) hf
  clear hf
  intro v3 v4 v5 d_6 H locs ls w hl hf
  refine lv_lload C.1 C.2.1 (dk_at dkX1_passByOdds 93 rfl) (lv_at hl 0 rfl) ?_
  cases hf
  exact fin _ _ _ _ _ (dk_at dkX1_passByOdds 94 rfl) rfl w
-- X1.landedIn
abbrev tbX1_landedIn : List (Nat × Instr × Nat) := [(0, .iconst 0, 1), (1, .istore_n 2, 1), (2, .iconst 0, 1), (3, .istore_n 3, 1), (4, .iload_n 3, 1), (5, .aload_n 0, 1), (6, .getfield 31, 3), (9, .if_icmp .ge 25, 3), (12, .aload_n 0, 1), (13, .getfield 9, 3), (16, .iload_n 3, 1), (17, .iaload, 1), (18, .iload_n 1, 1), (19, .if_icmp .ne 9, 3), (22, .iload_n 2, 1), (23, .iconst 1, 1), (24, .iload_n 3, 1), (25, .ishl, 1), (26, .ior, 1), (27, .istore_n 2, 1), (28, .iinc 3 1, 3), (31, .goto (-27), 3), (34, .iload_n 2, 1), (35, .ireturn, 1)]
theorem dkX1_landedIn : dk cX1_landedIn tbX1_landedIn := dk_of (by decide +kernel)
abbrev cdX1_landedIn : Cond := Cond.code yX1_landedIn cX1_landedIn 4 (some .int)
abbrev rmX1_landedIn : Room := { frames := 0, cells := 0, slots := 0, locals := 0 }
theorem mwX1_landedIn : Cond.instanceMethod yX1_landedIn ∈ wsL_law ∧ Cond.selects RX1 yX1_landedIn yX1_landedIn ∈ wsL_law ∧ Cond.initialized RX1 ∈ wsL_law ∧ cdX1_landedIn ∈ wsL_law := ⟨inr26 _ (List.mem_of_getElem? (i := 2) rfl), inr26 _ (List.mem_of_getElem? (i := 3) rfl), inr1 _ (List.mem_of_getElem? (i := 23) rfl), inr26 _ (List.mem_of_getElem? (i := 4) rfl)⟩
theorem hdX1_landedIn : yX1_landedIn.cls = RX1 ∧ yX1_landedIn.cls ≠ "java/lang/invoke/MethodHandle" ∧ yX1_landedIn.cls ≠ "java/lang/invoke/VarHandle" ∧ (parseMethodDescriptor yX1_landedIn.desc).map (fun d => d.parameters.length) = some 1 := by decide +kernel
set_option maxHeartbeats 4000000 in
set_option maxRecDepth 100000 in
theorem kX1_landedIn (l : Launch) (g : Gx) (a_d : Nat → Nat) (d : DT) (p1 : Int32) (res : Int32) (hf : fX1_landedIn p1 d = some res) : Met l yX1_landedIn (cdX1_landedIn :: wsL_law) rmX1_landedIn (va_Pc [.ref (a_d 0), .int p1] (RO g (wD g a_d d))) (vp_Si (fun x => x = res)) 0 0 (fun _ => False) := by
  refine Met_roi (cc := cX1_landedIn) (maxL := 4) (by decide) rfl (Nat.le_of_ble_eq_true rfl) ?_
  intro P E Z Mi AR BE ME CO Q C fin hK hP ls hl
  have hl : lv_has ls 4 [(0, .ref (a_d 0)), (1, .int p1)] := hl
  unfold fX1_landedIn at hf
  refine lv_iconst (v := 0) C.1 C.2.1 (dk_at dkX1_landedIn 0 rfl) (by decide) ?_
  refine lv_istore_n (lv' := [(2, .int 0), (0, .ref (a_d 0)), (1, .int p1)]) C.1 C.2.1 (dk_at dkX1_landedIn 1 rfl) rfl hl (by decide) rfl (fun ls hl => ?_)
  refine lv_iconst (v := 0) C.1 C.2.1 (dk_at dkX1_landedIn 2 rfl) (by decide) ?_
  refine lv_istore_n (lv' := [(3, .int 0), (2, .int 0), (0, .ref (a_d 0)), (1, .int p1)]) C.1 C.2.1 (dk_at dkX1_landedIn 3 rfl) rfl hl (by decide) rfl (fun ls hl => ?_)
  have L3 : ∀ (K : Int32 → Int32 → Option (Int32)), (∀ (v1 : Int32) (v2 : Int32) (ls : Array Slot), lv_has ls 4 [(2, .int v2)] → K v1 v2 = some res → W P l E rmX1_landedIn Z Mi AR BE ME CO Z.heap [] 0 0 Q (F0 Mi 34 ls [])) → ∀ (n : Nat), ∀ (v1 : Int32) (v2 : Int32) (ls : Array Slot), lv_has ls 4 [(3, .int v1), (2, .int v2), (0, .ref (a_d 0)), (1, .int p1)] → fX1_landedIn_L4 d p1 K n v1 v2 = some res → W P l E rmX1_landedIn Z Mi AR BE ME CO Z.heap [] 0 0 Q (F0 Mi 4 ls []) := by
    intro K hKe n
    induction n with
    | zero => intro v1 v2 ls hl hf; cases hf
    | succ n ih =>
      intro v1 v2 ls hl hf
      rw [fX1_landedIn_L4] at hf
      refine lv_iload_n C.1 C.2.1 (dk_at dkX1_landedIn 4 rfl) rfl (lv_at hl 0 rfl) ?_
      refine lv_aload_n C.1 C.2.1 (dk_at dkX1_landedIn 5 rfl) rfl (lv_at hl 2 rfl) ?_
      refine r_get (v := .int (dSa d)) C hK hP (fun w h => List.mem_cons_of_mem _ (inlX1 w h)) 0 rfl rfl 6 (by decide) (List.mem_cons_of_mem _ (inr23 _ (List.mem_of_getElem? (i := 11) rfl))) rfl (dk_at dkX1_landedIn 6 rfl) ?_
      refine lv_icmp_ge (tgt := 34) C.1 C.2.1 (dk_at dkX1_landedIn 7 rfl) (by decide) (fun c4 => ?_) (fun c4 => ?_)
      · have hf := (if_pos c4).symm.trans hf
        exact hKe v1 v2 _ (lv_sub hl [1] rfl) hf
      · have hf := (if_neg c4).symm.trans hf
        refine lv_aload_n C.1 C.2.1 (dk_at dkX1_landedIn 8 rfl) rfl (lv_at hl 2 rfl) ?_
        refine r_get (v := .ref (a_d 1)) C hK hP (fun w h => List.mem_cons_of_mem _ (inlX1 w h)) 0 rfl rfl 0 (by decide) (List.mem_cons_of_mem _ (inr3 _ (List.mem_of_getElem? (i := 15) rfl))) rfl (dk_at dkX1_landedIn 9 rfl) ?_
        refine lv_iload_n C.1 C.2.1 (dk_at dkX1_landedIn 10 rfl) rfl (lv_at hl 0 rfl) ?_
        obtain ⟨h5, hf⟩ := gd_at hf
        refine r_iald (k := v1.toNatClampNeg) (f := (dPl d)) C hK hP 1 rfl h5 rfl (dk_at dkX1_landedIn 11 rfl) ?_
        refine lv_topi (fun x6 ex6 => ?_)
        have hf := nm_at ex6 hf
        refine lv_iload_n C.1 C.2.1 (dk_at dkX1_landedIn 12 rfl) rfl (lv_at hl 3 rfl) ?_
        refine lv_icmp_ne (tgt := 28) C.1 C.2.1 (dk_at dkX1_landedIn 13 rfl) (by decide) (fun c7 => ?_) (fun c7 => ?_)
        · have hf := (if_neg c7).symm.trans hf
          obtain ⟨x8, ex8⟩ : ∃ z : Int32, z = v1 + 1 := ⟨_, rfl⟩
          have hf := nm_at ex8 hf
          refine lv_iinc (v := x8) (lv' := [(3, .int x8), (2, .int v2), (0, .ref (a_d 0)), (1, .int p1)]) C.1 C.2.1 (dk_at dkX1_landedIn 20 rfl) hl (k := 0) rfl (by rw [ex8]; rfl) (by decide) rfl (fun ls hl => ?_)
          refine lv_goto (tgt := 4) C.1 C.2.1 (dk_at dkX1_landedIn 21 rfl) (by decide) ?_
          exact ih x8 v2 _ (lv_sub hl [0, 1, 2, 3] rfl) hf
        · have hf := (if_pos c7).symm.trans hf
          refine lv_iload_n C.1 C.2.1 (dk_at dkX1_landedIn 14 rfl) rfl (lv_at hl 1 rfl) ?_
          refine lv_iconst (v := 1) C.1 C.2.1 (dk_at dkX1_landedIn 15 rfl) (by decide) ?_
          refine lv_iload_n C.1 C.2.1 (dk_at dkX1_landedIn 16 rfl) rfl (lv_at hl 0 rfl) ?_
          refine lv_ishl C.1 C.2.1 (dk_at dkX1_landedIn 17 rfl) ?_
          refine lv_ior C.1 C.2.1 (dk_at dkX1_landedIn 18 rfl) ?_
          refine lv_topi (fun x9 ex9 => ?_)
          have hf := nm_at ex9 hf
          refine lv_istore_n (lv' := [(2, .int x9), (3, .int v1), (0, .ref (a_d 0)), (1, .int p1)]) C.1 C.2.1 (dk_at dkX1_landedIn 19 rfl) rfl hl (by decide) rfl (fun ls hl => ?_)
          obtain ⟨x10, ex10⟩ : ∃ z : Int32, z = v1 + 1 := ⟨_, rfl⟩
          have hf := nm_at ex10 hf
          refine lv_iinc (v := x10) (lv' := [(3, .int x10), (2, .int x9), (0, .ref (a_d 0)), (1, .int p1)]) C.1 C.2.1 (dk_at dkX1_landedIn 20 rfl) hl (k := 1) rfl (by rw [ex10]; rfl) (by decide) rfl (fun ls hl => ?_)
          refine lv_goto (tgt := 4) C.1 C.2.1 (dk_at dkX1_landedIn 21 rfl) (by decide) ?_
          exact ih x10 x9 _ (lv_sub hl [0, 1, 2, 3] rfl) hf
  refine L3 _ ?_ 4096 0 0 _ (lv_sub hl [0, 1, 2, 3] rfl) hf
  clear hf
  intro v1 v2 ls hl hf
  refine lv_iload_n C.1 C.2.1 (dk_at dkX1_landedIn 22 rfl) rfl (lv_at hl 0 rfl) ?_
  cases hf
  exact fin _ _ _ (dk_at dkX1_landedIn 23 rfl) rfl
-- X1.landingsOf
abbrev tbX1_landingsOf : List (Nat × Instr × Nat) := [(0, .lconst 0, 1), (1, .lstore_n 2, 1), (2, .iconst 0, 1), (3, .istore 4, 2), (5, .iload 4, 2), (7, .aload_n 0, 1), (8, .getfield 31, 3), (11, .if_icmp .ge 32, 3), (14, .aload_n 0, 1), (15, .getfield 15, 3), (18, .iload 4, 2), (20, .iaload, 1), (21, .iload_n 1, 1), (22, .if_icmp .ne 15, 3), (25, .lload_n 2, 1), (26, .lconst 1, 1), (27, .aload_n 0, 1), (28, .getfield 9, 3), (31, .iload 4, 2), (33, .iaload, 1), (34, .lshl, 1), (35, .lor, 1), (36, .lstore_n 2, 1), (37, .iinc 4 1, 3), (40, .goto (-35), 3), (43, .lload_n 2, 1), (44, .lreturn, 1)]
theorem dkX1_landingsOf : dk cX1_landingsOf tbX1_landingsOf := dk_of (by decide +kernel)
abbrev cdX1_landingsOf : Cond := Cond.code yX1_landingsOf cX1_landingsOf 5 (some .long)
abbrev rmX1_landingsOf : Room := { frames := 0, cells := 0, slots := 0, locals := 0 }
theorem mwX1_landingsOf : Cond.instanceMethod yX1_landingsOf ∈ wsL_law ∧ Cond.selects RX1 yX1_landingsOf yX1_landingsOf ∈ wsL_law ∧ Cond.initialized RX1 ∈ wsL_law ∧ cdX1_landingsOf ∈ wsL_law := ⟨inr31 _ (List.mem_of_getElem? (i := 9) rfl), inr31 _ (List.mem_of_getElem? (i := 10) rfl), inr1 _ (List.mem_of_getElem? (i := 23) rfl), inr31 _ (List.mem_of_getElem? (i := 11) rfl)⟩
theorem hdX1_landingsOf : yX1_landingsOf.cls = RX1 ∧ yX1_landingsOf.cls ≠ "java/lang/invoke/MethodHandle" ∧ yX1_landingsOf.cls ≠ "java/lang/invoke/VarHandle" ∧ (parseMethodDescriptor yX1_landingsOf.desc).map (fun d => d.parameters.length) = some 1 := by decide +kernel
set_option maxHeartbeats 4000000 in
set_option maxRecDepth 100000 in
theorem kX1_landingsOf (l : Launch) (g : Gx) (a_d : Nat → Nat) (d : DT) (p1 : Int32) (res : Int64) (hf : fX1_landingsOf p1 d = some res) : Met l yX1_landingsOf (cdX1_landingsOf :: wsL_law) rmX1_landingsOf (va_Pc [.ref (a_d 0), .int p1] (RO g (wD g a_d d))) (vp_Sl (fun x => x = res)) 0 0 (fun _ => False) := by
  refine Met_rol (cc := cX1_landingsOf) (maxL := 5) (by decide) rfl (Nat.le_of_ble_eq_true rfl) ?_
  intro P E Z Mi AR BE ME CO Q C fin hK hP ls hl
  have hl : lv_has ls 5 [(0, .ref (a_d 0)), (1, .int p1)] := hl
  unfold fX1_landingsOf at hf
  refine lv_lconst (v := 0) C.1 C.2.1 (dk_at dkX1_landingsOf 0 rfl) (by decide) ?_
  refine lv_lstore_n (lv' := [(2, .long 0), (0, .ref (a_d 0)), (1, .int p1)]) C.1 C.2.1 (dk_at dkX1_landingsOf 1 rfl) rfl hl (by decide) rfl (fun ls hl => ?_)
  refine lv_iconst (v := 0) C.1 C.2.1 (dk_at dkX1_landingsOf 2 rfl) (by decide) ?_
  refine lv_istore (lv' := [(4, .int 0), (2, .long 0), (0, .ref (a_d 0)), (1, .int p1)]) C.1 C.2.1 (dk_at dkX1_landingsOf 3 rfl) hl (by decide) rfl (fun ls hl => ?_)
  have L3 : ∀ (K : Int32 → Int64 → Option (Int64)), (∀ (v1 : Int32) (v2 : Int64) (ls : Array Slot), lv_has ls 5 [(2, .long v2)] → K v1 v2 = some res → W P l E rmX1_landingsOf Z Mi AR BE ME CO Z.heap [] 0 0 Q (F0 Mi 43 ls [])) → ∀ (n : Nat), ∀ (v1 : Int32) (v2 : Int64) (ls : Array Slot), lv_has ls 5 [(4, .int v1), (2, .long v2), (0, .ref (a_d 0)), (1, .int p1)] → fX1_landingsOf_L5 d p1 K n v1 v2 = some res → W P l E rmX1_landingsOf Z Mi AR BE ME CO Z.heap [] 0 0 Q (F0 Mi 5 ls []) := by
    intro K hKe n
    induction n with
    | zero => intro v1 v2 ls hl hf; cases hf
    | succ n ih =>
      intro v1 v2 ls hl hf
      rw [fX1_landingsOf_L5] at hf
      refine lv_iload C.1 C.2.1 (dk_at dkX1_landingsOf 4 rfl) (lv_at hl 0 rfl) ?_
      refine lv_aload_n C.1 C.2.1 (dk_at dkX1_landingsOf 5 rfl) rfl (lv_at hl 2 rfl) ?_
      refine r_get (v := .int (dSa d)) C hK hP (fun w h => List.mem_cons_of_mem _ (inlX1 w h)) 0 rfl rfl 6 (by decide) (List.mem_cons_of_mem _ (inr23 _ (List.mem_of_getElem? (i := 11) rfl))) rfl (dk_at dkX1_landingsOf 6 rfl) ?_
      refine lv_icmp_ge (tgt := 43) C.1 C.2.1 (dk_at dkX1_landingsOf 7 rfl) (by decide) (fun c4 => ?_) (fun c4 => ?_)
      · have hf := (if_pos c4).symm.trans hf
        exact hKe v1 v2 _ (lv_sub hl [1] rfl) hf
      · have hf := (if_neg c4).symm.trans hf
        refine lv_aload_n C.1 C.2.1 (dk_at dkX1_landingsOf 8 rfl) rfl (lv_at hl 2 rfl) ?_
        refine r_get (v := .ref (a_d 2)) C hK hP (fun w h => List.mem_cons_of_mem _ (inlX1 w h)) 0 rfl rfl 1 (by decide) (List.mem_cons_of_mem _ (inr3 _ (List.mem_of_getElem? (i := 16) rfl))) rfl (dk_at dkX1_landingsOf 9 rfl) ?_
        refine lv_iload C.1 C.2.1 (dk_at dkX1_landingsOf 10 rfl) (lv_at hl 0 rfl) ?_
        obtain ⟨h5, hf⟩ := gd_at hf
        refine r_iald (k := v1.toNatClampNeg) (f := (dHo d)) C hK hP 2 rfl h5 rfl (dk_at dkX1_landingsOf 11 rfl) ?_
        refine lv_topi (fun x6 ex6 => ?_)
        have hf := nm_at ex6 hf
        refine lv_iload_n C.1 C.2.1 (dk_at dkX1_landingsOf 12 rfl) rfl (lv_at hl 3 rfl) ?_
        refine lv_icmp_ne (tgt := 37) C.1 C.2.1 (dk_at dkX1_landingsOf 13 rfl) (by decide) (fun c7 => ?_) (fun c7 => ?_)
        · have hf := (if_neg c7).symm.trans hf
          obtain ⟨x8, ex8⟩ : ∃ z : Int32, z = v1 + 1 := ⟨_, rfl⟩
          have hf := nm_at ex8 hf
          refine lv_iinc (v := x8) (lv' := [(4, .int x8), (2, .long v2), (0, .ref (a_d 0)), (1, .int p1)]) C.1 C.2.1 (dk_at dkX1_landingsOf 23 rfl) hl (k := 0) rfl (by rw [ex8]; rfl) (by decide) rfl (fun ls hl => ?_)
          refine lv_goto (tgt := 5) C.1 C.2.1 (dk_at dkX1_landingsOf 24 rfl) (by decide) ?_
          exact ih x8 v2 _ (lv_sub hl [0, 1, 2, 3] rfl) hf
        · have hf := (if_pos c7).symm.trans hf
          refine lv_lload_n C.1 C.2.1 (dk_at dkX1_landingsOf 14 rfl) rfl (lv_at hl 1 rfl) ?_
          refine lv_lconst (v := 1) C.1 C.2.1 (dk_at dkX1_landingsOf 15 rfl) (by decide) ?_
          refine lv_aload_n C.1 C.2.1 (dk_at dkX1_landingsOf 16 rfl) rfl (lv_at hl 2 rfl) ?_
          refine r_get (v := .ref (a_d 1)) C hK hP (fun w h => List.mem_cons_of_mem _ (inlX1 w h)) 0 rfl rfl 0 (by decide) (List.mem_cons_of_mem _ (inr3 _ (List.mem_of_getElem? (i := 15) rfl))) rfl (dk_at dkX1_landingsOf 17 rfl) ?_
          refine lv_iload C.1 C.2.1 (dk_at dkX1_landingsOf 18 rfl) (lv_at hl 0 rfl) ?_
          obtain ⟨h9, hf⟩ := gd_at hf
          refine r_iald (k := v1.toNatClampNeg) (f := (dPl d)) C hK hP 1 rfl h9 rfl (dk_at dkX1_landingsOf 19 rfl) ?_
          refine lv_lshl C.1 C.2.1 (dk_at dkX1_landingsOf 20 rfl) rfl ?_
          refine lv_lor C.1 C.2.1 (dk_at dkX1_landingsOf 21 rfl) ?_
          refine lv_topl (fun x10 ex10 => ?_)
          have hf := nm_at ex10 hf
          refine lv_lstore_n (lv' := [(2, .long x10), (4, .int v1), (0, .ref (a_d 0)), (1, .int p1)]) C.1 C.2.1 (dk_at dkX1_landingsOf 22 rfl) rfl hl (by decide) rfl (fun ls hl => ?_)
          obtain ⟨x11, ex11⟩ : ∃ z : Int32, z = v1 + 1 := ⟨_, rfl⟩
          have hf := nm_at ex11 hf
          refine lv_iinc (v := x11) (lv' := [(4, .int x11), (2, .long x10), (0, .ref (a_d 0)), (1, .int p1)]) C.1 C.2.1 (dk_at dkX1_landingsOf 23 rfl) hl (k := 1) rfl (by rw [ex11]; rfl) (by decide) rfl (fun ls hl => ?_)
          refine lv_goto (tgt := 5) C.1 C.2.1 (dk_at dkX1_landingsOf 24 rfl) (by decide) ?_
          exact ih x11 x10 _ (lv_sub hl [0, 1, 2, 3] rfl) hf
  refine L3 _ ?_ 4096 0 0 _ (lv_sub hl [0, 1, 2, 3] rfl) hf
  clear hf
  intro v1 v2 ls hl hf
  refine lv_lload_n C.1 C.2.1 (dk_at dkX1_landingsOf 25 rfl) rfl (lv_at hl 0 rfl) ?_
  cases hf
  exact fin _ _ _ (dk_at dkX1_landingsOf 26 rfl) rfl
-- X1.hoursOfLanding
abbrev tbX1_hoursOfLanding : List (Nat × Instr × Nat) := [(0, .iconst 0, 1), (1, .istore_n 1, 1), (2, .iconst 0, 1), (3, .istore_n 2, 1), (4, .iload_n 2, 1), (5, .aload_n 0, 1), (6, .getfield 31, 3), (9, .if_icmp .ge 20, 3), (12, .iload_n 1, 1), (13, .iconst 1, 1), (14, .aload_n 0, 1), (15, .getfield 15, 3), (18, .iload_n 2, 1), (19, .iaload, 1), (20, .ishl, 1), (21, .ior, 1), (22, .istore_n 1, 1), (23, .iinc 2 1, 3), (26, .goto (-22), 3), (29, .iload_n 1, 1), (30, .ireturn, 1)]
theorem dkX1_hoursOfLanding : dk cX1_hoursOfLanding tbX1_hoursOfLanding := dk_of (by decide +kernel)
abbrev cdX1_hoursOfLanding : Cond := Cond.code yX1_hoursOfLanding cX1_hoursOfLanding 3 (some .int)
abbrev rmX1_hoursOfLanding : Room := { frames := 0, cells := 0, slots := 0, locals := 0 }
theorem mwX1_hoursOfLanding : Cond.instanceMethod yX1_hoursOfLanding ∈ wsL_law ∧ Cond.selects RX1 yX1_hoursOfLanding yX1_hoursOfLanding ∈ wsL_law ∧ Cond.initialized RX1 ∈ wsL_law ∧ cdX1_hoursOfLanding ∈ wsL_law := ⟨inr27 _ (List.mem_of_getElem? (i := 19) rfl), inr27 _ (List.mem_of_getElem? (i := 20) rfl), inr1 _ (List.mem_of_getElem? (i := 23) rfl), inr27 _ (List.mem_of_getElem? (i := 21) rfl)⟩
theorem hdX1_hoursOfLanding : yX1_hoursOfLanding.cls = RX1 ∧ yX1_hoursOfLanding.cls ≠ "java/lang/invoke/MethodHandle" ∧ yX1_hoursOfLanding.cls ≠ "java/lang/invoke/VarHandle" ∧ (parseMethodDescriptor yX1_hoursOfLanding.desc).map (fun d => d.parameters.length) = some 0 := by decide +kernel
set_option maxHeartbeats 4000000 in
set_option maxRecDepth 100000 in
theorem kX1_hoursOfLanding (l : Launch) (g : Gx) (a_d : Nat → Nat) (d : DT) (res : Int32) (hf : fX1_hoursOfLanding d = some res) : Met l yX1_hoursOfLanding (cdX1_hoursOfLanding :: wsL_law) rmX1_hoursOfLanding (va_Pc [.ref (a_d 0)] (RO g (wD g a_d d))) (vp_Si (fun x => x = res)) 0 0 (fun _ => False) := by
  refine Met_roi (cc := cX1_hoursOfLanding) (maxL := 3) (by decide) rfl (Nat.le_of_ble_eq_true rfl) ?_
  intro P E Z Mi AR BE ME CO Q C fin hK hP ls hl
  have hl : lv_has ls 3 [(0, .ref (a_d 0))] := hl
  unfold fX1_hoursOfLanding at hf
  refine lv_iconst (v := 0) C.1 C.2.1 (dk_at dkX1_hoursOfLanding 0 rfl) (by decide) ?_
  refine lv_istore_n (lv' := [(1, .int 0), (0, .ref (a_d 0))]) C.1 C.2.1 (dk_at dkX1_hoursOfLanding 1 rfl) rfl hl (by decide) rfl (fun ls hl => ?_)
  refine lv_iconst (v := 0) C.1 C.2.1 (dk_at dkX1_hoursOfLanding 2 rfl) (by decide) ?_
  refine lv_istore_n (lv' := [(2, .int 0), (1, .int 0), (0, .ref (a_d 0))]) C.1 C.2.1 (dk_at dkX1_hoursOfLanding 3 rfl) rfl hl (by decide) rfl (fun ls hl => ?_)
  have L3 : ∀ (K : Int32 → Int32 → Option (Int32)), (∀ (v1 : Int32) (v2 : Int32) (ls : Array Slot), lv_has ls 3 [(1, .int v2)] → K v1 v2 = some res → W P l E rmX1_hoursOfLanding Z Mi AR BE ME CO Z.heap [] 0 0 Q (F0 Mi 29 ls [])) → ∀ (n : Nat), ∀ (v1 : Int32) (v2 : Int32) (ls : Array Slot), lv_has ls 3 [(2, .int v1), (1, .int v2), (0, .ref (a_d 0))] → fX1_hoursOfLanding_L4 d K n v1 v2 = some res → W P l E rmX1_hoursOfLanding Z Mi AR BE ME CO Z.heap [] 0 0 Q (F0 Mi 4 ls []) := by
    intro K hKe n
    induction n with
    | zero => intro v1 v2 ls hl hf; cases hf
    | succ n ih =>
      intro v1 v2 ls hl hf
      rw [fX1_hoursOfLanding_L4] at hf
      refine lv_iload_n C.1 C.2.1 (dk_at dkX1_hoursOfLanding 4 rfl) rfl (lv_at hl 0 rfl) ?_
      refine lv_aload_n C.1 C.2.1 (dk_at dkX1_hoursOfLanding 5 rfl) rfl (lv_at hl 2 rfl) ?_
      refine r_get (v := .int (dSa d)) C hK hP (fun w h => List.mem_cons_of_mem _ (inlX1 w h)) 0 rfl rfl 6 (by decide) (List.mem_cons_of_mem _ (inr23 _ (List.mem_of_getElem? (i := 11) rfl))) rfl (dk_at dkX1_hoursOfLanding 6 rfl) ?_
      refine lv_icmp_ge (tgt := 29) C.1 C.2.1 (dk_at dkX1_hoursOfLanding 7 rfl) (by decide) (fun c4 => ?_) (fun c4 => ?_)
      · have hf := (if_pos c4).symm.trans hf
        exact hKe v1 v2 _ (lv_sub hl [1] rfl) hf
      · have hf := (if_neg c4).symm.trans hf
        refine lv_iload_n C.1 C.2.1 (dk_at dkX1_hoursOfLanding 8 rfl) rfl (lv_at hl 1 rfl) ?_
        refine lv_iconst (v := 1) C.1 C.2.1 (dk_at dkX1_hoursOfLanding 9 rfl) (by decide) ?_
        refine lv_aload_n C.1 C.2.1 (dk_at dkX1_hoursOfLanding 10 rfl) rfl (lv_at hl 2 rfl) ?_
        refine r_get (v := .ref (a_d 2)) C hK hP (fun w h => List.mem_cons_of_mem _ (inlX1 w h)) 0 rfl rfl 1 (by decide) (List.mem_cons_of_mem _ (inr3 _ (List.mem_of_getElem? (i := 16) rfl))) rfl (dk_at dkX1_hoursOfLanding 11 rfl) ?_
        refine lv_iload_n C.1 C.2.1 (dk_at dkX1_hoursOfLanding 12 rfl) rfl (lv_at hl 0 rfl) ?_
        obtain ⟨h5, hf⟩ := gd_at hf
        refine r_iald (k := v1.toNatClampNeg) (f := (dHo d)) C hK hP 2 rfl h5 rfl (dk_at dkX1_hoursOfLanding 13 rfl) ?_
        refine lv_ishl C.1 C.2.1 (dk_at dkX1_hoursOfLanding 14 rfl) ?_
        refine lv_ior C.1 C.2.1 (dk_at dkX1_hoursOfLanding 15 rfl) ?_
        refine lv_topi (fun x6 ex6 => ?_)
        have hf := nm_at ex6 hf
        refine lv_istore_n (lv' := [(1, .int x6), (2, .int v1), (0, .ref (a_d 0))]) C.1 C.2.1 (dk_at dkX1_hoursOfLanding 16 rfl) rfl hl (by decide) rfl (fun ls hl => ?_)
        obtain ⟨x7, ex7⟩ : ∃ z : Int32, z = v1 + 1 := ⟨_, rfl⟩
        have hf := nm_at ex7 hf
        refine lv_iinc (v := x7) (lv' := [(2, .int x7), (1, .int x6), (0, .ref (a_d 0))]) C.1 C.2.1 (dk_at dkX1_hoursOfLanding 17 rfl) hl (k := 1) rfl (by rw [ex7]; rfl) (by decide) rfl (fun ls hl => ?_)
        refine lv_goto (tgt := 4) C.1 C.2.1 (dk_at dkX1_hoursOfLanding 18 rfl) (by decide) ?_
        exact ih x7 x6 _ (lv_sub hl [0, 1, 2] rfl) hf
  refine L3 _ ?_ 4096 0 0 _ (lv_sub hl [0, 1, 2] rfl) hf
  clear hf
  intro v1 v2 ls hl hf
  refine lv_iload_n C.1 C.2.1 (dk_at dkX1_hoursOfLanding 19 rfl) rfl (lv_at hl 0 rfl) ?_
  cases hf
  exact fin _ _ _ (dk_at dkX1_hoursOfLanding 20 rfl) rfl
-- X1.allSteps
abbrev tbX1_allSteps : List (Nat × Instr × Nat) := [(0, .iconst 0, 1), (1, .istore_n 1, 1), (2, .iconst 0, 1), (3, .istore_n 2, 1), (4, .iload_n 2, 1), (5, .aload_n 0, 1), (6, .getfield 31, 3), (9, .if_icmp .ge 18, 3), (12, .iload_n 1, 1), (13, .aload_n 0, 1), (14, .getfield 18, 3), (17, .iload_n 2, 1), (18, .iaload, 1), (19, .iadd, 1), (20, .istore_n 1, 1), (21, .iinc 2 1, 3), (24, .goto (-20), 3), (27, .iload_n 1, 1), (28, .ireturn, 1)]
theorem dkX1_allSteps : dk cX1_allSteps tbX1_allSteps := dk_of (by decide +kernel)
abbrev cdX1_allSteps : Cond := Cond.code yX1_allSteps cX1_allSteps 3 (some .int)
abbrev rmX1_allSteps : Room := { frames := 0, cells := 0, slots := 0, locals := 0 }
theorem mwX1_allSteps : Cond.instanceMethod yX1_allSteps ∈ wsL_law ∧ Cond.selects RX1 yX1_allSteps yX1_allSteps ∈ wsL_law ∧ Cond.initialized RX1 ∈ wsL_law ∧ cdX1_allSteps ∈ wsL_law := ⟨inr27 _ (List.mem_of_getElem? (i := 15) rfl), inr27 _ (List.mem_of_getElem? (i := 16) rfl), inr1 _ (List.mem_of_getElem? (i := 23) rfl), inr27 _ (List.mem_of_getElem? (i := 17) rfl)⟩
theorem hdX1_allSteps : yX1_allSteps.cls = RX1 ∧ yX1_allSteps.cls ≠ "java/lang/invoke/MethodHandle" ∧ yX1_allSteps.cls ≠ "java/lang/invoke/VarHandle" ∧ (parseMethodDescriptor yX1_allSteps.desc).map (fun d => d.parameters.length) = some 0 := by decide +kernel
set_option maxHeartbeats 4000000 in
set_option maxRecDepth 100000 in
theorem kX1_allSteps (l : Launch) (g : Gx) (a_d : Nat → Nat) (d : DT) (res : Int32) (hf : fX1_allSteps d = some res) : Met l yX1_allSteps (cdX1_allSteps :: wsL_law) rmX1_allSteps (va_Pc [.ref (a_d 0)] (RO g (wD g a_d d))) (vp_Si (fun x => x = res)) 0 0 (fun _ => False) := by
  refine Met_roi (cc := cX1_allSteps) (maxL := 3) (by decide) rfl (Nat.le_of_ble_eq_true rfl) ?_
  intro P E Z Mi AR BE ME CO Q C fin hK hP ls hl
  have hl : lv_has ls 3 [(0, .ref (a_d 0))] := hl
  unfold fX1_allSteps at hf
  refine lv_iconst (v := 0) C.1 C.2.1 (dk_at dkX1_allSteps 0 rfl) (by decide) ?_
  refine lv_istore_n (lv' := [(1, .int 0), (0, .ref (a_d 0))]) C.1 C.2.1 (dk_at dkX1_allSteps 1 rfl) rfl hl (by decide) rfl (fun ls hl => ?_)
  refine lv_iconst (v := 0) C.1 C.2.1 (dk_at dkX1_allSteps 2 rfl) (by decide) ?_
  refine lv_istore_n (lv' := [(2, .int 0), (1, .int 0), (0, .ref (a_d 0))]) C.1 C.2.1 (dk_at dkX1_allSteps 3 rfl) rfl hl (by decide) rfl (fun ls hl => ?_)
  have L3 : ∀ (K : Int32 → Int32 → Option (Int32)), (∀ (v1 : Int32) (v2 : Int32) (ls : Array Slot), lv_has ls 3 [(1, .int v2)] → K v1 v2 = some res → W P l E rmX1_allSteps Z Mi AR BE ME CO Z.heap [] 0 0 Q (F0 Mi 27 ls [])) → ∀ (n : Nat), ∀ (v1 : Int32) (v2 : Int32) (ls : Array Slot), lv_has ls 3 [(2, .int v1), (1, .int v2), (0, .ref (a_d 0))] → fX1_allSteps_L4 d K n v1 v2 = some res → W P l E rmX1_allSteps Z Mi AR BE ME CO Z.heap [] 0 0 Q (F0 Mi 4 ls []) := by
    intro K hKe n
    induction n with
    | zero => intro v1 v2 ls hl hf; cases hf
    | succ n ih =>
      intro v1 v2 ls hl hf
      rw [fX1_allSteps_L4] at hf
      refine lv_iload_n C.1 C.2.1 (dk_at dkX1_allSteps 4 rfl) rfl (lv_at hl 0 rfl) ?_
      refine lv_aload_n C.1 C.2.1 (dk_at dkX1_allSteps 5 rfl) rfl (lv_at hl 2 rfl) ?_
      refine r_get (v := .int (dSa d)) C hK hP (fun w h => List.mem_cons_of_mem _ (inlX1 w h)) 0 rfl rfl 6 (by decide) (List.mem_cons_of_mem _ (inr23 _ (List.mem_of_getElem? (i := 11) rfl))) rfl (dk_at dkX1_allSteps 6 rfl) ?_
      refine lv_icmp_ge (tgt := 27) C.1 C.2.1 (dk_at dkX1_allSteps 7 rfl) (by decide) (fun c4 => ?_) (fun c4 => ?_)
      · have hf := (if_pos c4).symm.trans hf
        exact hKe v1 v2 _ (lv_sub hl [1] rfl) hf
      · have hf := (if_neg c4).symm.trans hf
        refine lv_iload_n C.1 C.2.1 (dk_at dkX1_allSteps 8 rfl) rfl (lv_at hl 1 rfl) ?_
        refine lv_aload_n C.1 C.2.1 (dk_at dkX1_allSteps 9 rfl) rfl (lv_at hl 2 rfl) ?_
        refine r_get (v := .ref (a_d 3)) C hK hP (fun w h => List.mem_cons_of_mem _ (inlX1 w h)) 0 rfl rfl 2 (by decide) (List.mem_cons_of_mem _ (inr3 _ (List.mem_of_getElem? (i := 17) rfl))) rfl (dk_at dkX1_allSteps 10 rfl) ?_
        refine lv_iload_n C.1 C.2.1 (dk_at dkX1_allSteps 11 rfl) rfl (lv_at hl 0 rfl) ?_
        obtain ⟨h5, hf⟩ := gd_at hf
        refine r_iald (k := v1.toNatClampNeg) (f := (dSt d)) C hK hP 3 rfl h5 rfl (dk_at dkX1_allSteps 12 rfl) ?_
        refine lv_iadd C.1 C.2.1 (dk_at dkX1_allSteps 13 rfl) ?_
        refine lv_topi (fun x6 ex6 => ?_)
        have hf := nm_at ex6 hf
        refine lv_istore_n (lv' := [(1, .int x6), (2, .int v1), (0, .ref (a_d 0))]) C.1 C.2.1 (dk_at dkX1_allSteps 14 rfl) rfl hl (by decide) rfl (fun ls hl => ?_)
        obtain ⟨x7, ex7⟩ : ∃ z : Int32, z = v1 + 1 := ⟨_, rfl⟩
        have hf := nm_at ex7 hf
        refine lv_iinc (v := x7) (lv' := [(2, .int x7), (1, .int x6), (0, .ref (a_d 0))]) C.1 C.2.1 (dk_at dkX1_allSteps 15 rfl) hl (k := 1) rfl (by rw [ex7]; rfl) (by decide) rfl (fun ls hl => ?_)
        refine lv_goto (tgt := 4) C.1 C.2.1 (dk_at dkX1_allSteps 16 rfl) (by decide) ?_
        exact ih x7 x6 _ (lv_sub hl [0, 1, 2] rfl) hf
  refine L3 _ ?_ 4096 0 0 _ (lv_sub hl [0, 1, 2] rfl) hf
  clear hf
  intro v1 v2 ls hl hf
  refine lv_iload_n C.1 C.2.1 (dk_at dkX1_allSteps 17 rfl) rfl (lv_at hl 0 rfl) ?_
  cases hf
  exact fin _ _ _ (dk_at dkX1_allSteps 18 rfl) rfl
-- X1.heard
abbrev tbX1_heard : List (Nat × Instr × Nat) := [(0, .iconst 0, 1), (1, .istore_n 2, 1), (2, .iconst 0, 1), (3, .istore_n 3, 1), (4, .iload_n 3, 1), (5, .aload_n 0, 1), (6, .getfield 31, 3), (9, .if_icmp .ge 25, 3), (12, .aload_n 1, 1), (13, .aload_n 0, 1), (14, .getfield 9, 3), (17, .iload_n 3, 1), (18, .iaload, 1), (19, .invokevirtual 97, 3), (22, .ifCond .le 6, 3), (25, .iinc 2 1, 3), (28, .iinc 3 1, 3), (31, .goto (-27), 3), (34, .iload_n 2, 1), (35, .ireturn, 1)]
theorem dkX1_heard : dk cX1_heard tbX1_heard := dk_of (by decide +kernel)
abbrev cdX1_heard : Cond := Cond.code yX1_heard cX1_heard 4 (some .int)
abbrev rmX1_heard : Room := { frames := 2, cells := 0, slots := 0, locals := 43 }
theorem mwX1_heard : Cond.instanceMethod yX1_heard ∈ wsL_law ∧ Cond.selects RX1 yX1_heard yX1_heard ∈ wsL_law ∧ Cond.initialized RX1 ∈ wsL_law ∧ cdX1_heard ∈ wsL_law := ⟨inr27 _ (List.mem_of_getElem? (i := 6) rfl), inr27 _ (List.mem_of_getElem? (i := 7) rfl), inr1 _ (List.mem_of_getElem? (i := 23) rfl), inr27 _ (List.mem_of_getElem? (i := 8) rfl)⟩
theorem hdX1_heard : yX1_heard.cls = RX1 ∧ yX1_heard.cls ≠ "java/lang/invoke/MethodHandle" ∧ yX1_heard.cls ≠ "java/lang/invoke/VarHandle" ∧ (parseMethodDescriptor yX1_heard.desc).map (fun d => d.parameters.length) = some 1 := by decide +kernel
set_option maxHeartbeats 4000000 in
set_option maxRecDepth 100000 in
theorem kX1_heard (l : Launch) (g : Gx) (a_d a_c : Nat → Nat) (d : DT) (c : CT) (res : Int32) (hf : fX1_heard d c = some res) : Met l yX1_heard (cdX1_heard :: wsL_law) rmX1_heard (va_Pc [.ref (a_d 0), .ref (a_c 0)] (RO g (wD g a_d d ++ wC g a_c c))) (vp_Si (fun x => x = res)) 0 0 (fun _ => False) := by
  refine Met_roi (cc := cX1_heard) (maxL := 4) (by decide) rfl (Nat.le_of_ble_eq_true rfl) ?_
  intro P E Z Mi AR BE ME CO Q C fin hK hP ls hl
  have hl : lv_has ls 4 [(0, .ref (a_d 0)), (1, .ref (a_c 0))] := hl
  unfold fX1_heard at hf
  refine lv_iconst (v := 0) C.1 C.2.1 (dk_at dkX1_heard 0 rfl) (by decide) ?_
  refine lv_istore_n (lv' := [(2, .int 0), (0, .ref (a_d 0)), (1, .ref (a_c 0))]) C.1 C.2.1 (dk_at dkX1_heard 1 rfl) rfl hl (by decide) rfl (fun ls hl => ?_)
  refine lv_iconst (v := 0) C.1 C.2.1 (dk_at dkX1_heard 2 rfl) (by decide) ?_
  refine lv_istore_n (lv' := [(3, .int 0), (2, .int 0), (0, .ref (a_d 0)), (1, .ref (a_c 0))]) C.1 C.2.1 (dk_at dkX1_heard 3 rfl) rfl hl (by decide) rfl (fun ls hl => ?_)
  have L3 : ∀ (K : Int32 → Int32 → Option (Int32)), (∀ (v1 : Int32) (v2 : Int32) (ls : Array Slot), lv_has ls 4 [(2, .int v2)] → K v1 v2 = some res → W P l E rmX1_heard Z Mi AR BE ME CO Z.heap [] 0 0 Q (F0 Mi 34 ls [])) → ∀ (n : Nat), ∀ (v1 : Int32) (v2 : Int32) (ls : Array Slot), lv_has ls 4 [(3, .int v1), (2, .int v2), (0, .ref (a_d 0)), (1, .ref (a_c 0))] → fX1_heard_L4 d c K n v1 v2 = some res → W P l E rmX1_heard Z Mi AR BE ME CO Z.heap [] 0 0 Q (F0 Mi 4 ls []) := by
    intro K hKe n
    induction n with
    | zero => intro v1 v2 ls hl hf; cases hf
    | succ n ih =>
      intro v1 v2 ls hl hf
      rw [fX1_heard_L4] at hf
      refine lv_iload_n C.1 C.2.1 (dk_at dkX1_heard 4 rfl) rfl (lv_at hl 0 rfl) ?_
      refine lv_aload_n C.1 C.2.1 (dk_at dkX1_heard 5 rfl) rfl (lv_at hl 2 rfl) ?_
      refine r_get (v := .int (dSa d)) C hK hP (fun w h => List.mem_cons_of_mem _ (inlX1 w h)) 0 rfl rfl 6 (by decide) (List.mem_cons_of_mem _ (inr23 _ (List.mem_of_getElem? (i := 11) rfl))) rfl (dk_at dkX1_heard 6 rfl) ?_
      refine lv_icmp_ge (tgt := 34) C.1 C.2.1 (dk_at dkX1_heard 7 rfl) (by decide) (fun c4 => ?_) (fun c4 => ?_)
      · have hf := (if_pos c4).symm.trans hf
        exact hKe v1 v2 _ (lv_sub hl [1] rfl) hf
      · have hf := (if_neg c4).symm.trans hf
        refine lv_aload_n C.1 C.2.1 (dk_at dkX1_heard 8 rfl) rfl (lv_at hl 3 rfl) ?_
        refine lv_aload_n C.1 C.2.1 (dk_at dkX1_heard 9 rfl) rfl (lv_at hl 2 rfl) ?_
        refine r_get (v := .ref (a_d 1)) C hK hP (fun w h => List.mem_cons_of_mem _ (inlX1 w h)) 0 rfl rfl 0 (by decide) (List.mem_cons_of_mem _ (inr3 _ (List.mem_of_getElem? (i := 15) rfl))) rfl (dk_at dkX1_heard 10 rfl) ?_
        refine lv_iload_n C.1 C.2.1 (dk_at dkX1_heard 11 rfl) rfl (lv_at hl 0 rfl) ?_
        obtain ⟨h5, hf⟩ := gd_at hf
        refine r_iald (k := v1.toNatClampNeg) (f := (dPl d)) C hK hP 1 rfl h5 rfl (dk_at dkX1_heard 12 rfl) ?_
        refine lv_topi (fun x6 ex6 => ?_)
        have hf := nm_at ex6 hf
        obtain ⟨r7, hq8, hf⟩ := bd1_at hf
        refine r_roV (As := [.int x6]) (rest := []) C (kX0_hearersIn l g a_c c x6 r7 hq8) (cwV0 C (inr27 _ (List.mem_of_getElem? (i := 9) rfl)) mwX0_hearersIn hdX0_hearersIn ⟨Nat.le_of_ble_eq_true rfl, Nat.le_of_ble_eq_true rfl⟩) hK (hP.sub [6, 7, 8, 9, 10, 11, 12, 13, 14, 15, 16] rfl) rfl rfl rfl hl.1 rfl (Nat.le_of_ble_eq_true rfl) ⟨Nat.zero_le _, Nat.zero_le _⟩ (dk_at dkX1_heard 13 rfl) ?_
        refine lv_if_le (tgt := 28) C.1 C.2.1 (dk_at dkX1_heard 14 rfl) (by decide) (fun c9 => ?_) (fun c9 => ?_)
        · have hf := (if_pos c9).symm.trans hf
          obtain ⟨x10, ex10⟩ : ∃ z : Int32, z = v1 + 1 := ⟨_, rfl⟩
          have hf := nm_at ex10 hf
          refine lv_iinc (v := x10) (lv' := [(3, .int x10), (2, .int v2), (0, .ref (a_d 0)), (1, .ref (a_c 0))]) C.1 C.2.1 (dk_at dkX1_heard 16 rfl) hl (k := 0) rfl (by rw [ex10]; rfl) (by decide) rfl (fun ls hl => ?_)
          refine lv_goto (tgt := 4) C.1 C.2.1 (dk_at dkX1_heard 17 rfl) (by decide) ?_
          exact ih x10 v2 _ (lv_sub hl [0, 1, 2, 3] rfl) hf
        · have hf := (if_neg c9).symm.trans hf
          obtain ⟨x11, ex11⟩ : ∃ z : Int32, z = v2 + 1 := ⟨_, rfl⟩
          have hf := nm_at ex11 hf
          refine lv_iinc (v := x11) (lv' := [(2, .int x11), (3, .int v1), (0, .ref (a_d 0)), (1, .ref (a_c 0))]) C.1 C.2.1 (dk_at dkX1_heard 15 rfl) hl (k := 1) rfl (by rw [ex11]; rfl) (by decide) rfl (fun ls hl => ?_)
          obtain ⟨x12, ex12⟩ : ∃ z : Int32, z = v1 + 1 := ⟨_, rfl⟩
          have hf := nm_at ex12 hf
          refine lv_iinc (v := x12) (lv' := [(3, .int x12), (2, .int x11), (0, .ref (a_d 0)), (1, .ref (a_c 0))]) C.1 C.2.1 (dk_at dkX1_heard 16 rfl) hl (k := 1) rfl (by rw [ex12]; rfl) (by decide) rfl (fun ls hl => ?_)
          refine lv_goto (tgt := 4) C.1 C.2.1 (dk_at dkX1_heard 17 rfl) (by decide) ?_
          exact ih x12 x11 _ (lv_sub hl [0, 1, 2, 3] rfl) hf
  refine L3 _ ?_ 4096 0 0 _ (lv_sub hl [0, 1, 2, 3] rfl) hf
  clear hf
  intro v1 v2 ls hl hf
  refine lv_iload_n C.1 C.2.1 (dk_at dkX1_heard 18 rfl) rfl (lv_at hl 0 rfl) ?_
  cases hf
  exact fin _ _ _ (dk_at dkX1_heard 19 rfl) rfl
-- X1.isAsSeen
abbrev tbX1_isAsSeen : List (Nat × Instr × Nat) := [(0, .iconst 0, 1), (1, .istore_n 2, 1), (2, .iload_n 2, 1), (3, .aload_n 1, 1), (4, .getfield 100, 3), (7, .if_icmp .ge 31, 3), (10, .aload_n 0, 1), (11, .getfield 9, 3), (14, .aload_n 1, 1), (15, .getfield 103, 3), (18, .iload_n 2, 1), (19, .iaload, 1), (20, .iaload, 1), (21, .aload_n 1, 1), (22, .getfield 106, 3), (25, .iload_n 2, 1), (26, .iaload, 1), (27, .if_icmp .eq 5, 3), (30, .iconst 0, 1), (31, .ireturn, 1), (32, .iinc 2 1, 3), (35, .goto (-33), 3), (38, .iconst 1, 1), (39, .ireturn, 1)]
theorem dkX1_isAsSeen : dk cX1_isAsSeen tbX1_isAsSeen := dk_of (by decide +kernel)
abbrev cdX1_isAsSeen : Cond := Cond.code yX1_isAsSeen cX1_isAsSeen 3 (some .boolean)
abbrev rmX1_isAsSeen : Room := { frames := 0, cells := 0, slots := 0, locals := 0 }
theorem mwX1_isAsSeen : Cond.instanceMethod yX1_isAsSeen ∈ wsL_law ∧ Cond.selects RX1 yX1_isAsSeen yX1_isAsSeen ∈ wsL_law ∧ Cond.initialized RX1 ∈ wsL_law ∧ cdX1_isAsSeen ∈ wsL_law := ⟨inr36 _ (List.mem_of_getElem? (i := 6) rfl), inr36 _ (List.mem_of_getElem? (i := 7) rfl), inr1 _ (List.mem_of_getElem? (i := 23) rfl), inr36 _ (List.mem_of_getElem? (i := 8) rfl)⟩
theorem hdX1_isAsSeen : yX1_isAsSeen.cls = RX1 ∧ yX1_isAsSeen.cls ≠ "java/lang/invoke/MethodHandle" ∧ yX1_isAsSeen.cls ≠ "java/lang/invoke/VarHandle" ∧ (parseMethodDescriptor yX1_isAsSeen.desc).map (fun d => d.parameters.length) = some 1 := by decide +kernel
set_option maxHeartbeats 4000000 in
set_option maxRecDepth 100000 in
theorem kX1_isAsSeen (l : Launch) (g : Gx) (a_d a_c : Nat → Nat) (d : DT) (c : CT) (res : Int32) (hf : fX1_isAsSeen d c = some res) : Met l yX1_isAsSeen (cdX1_isAsSeen :: wsL_law) rmX1_isAsSeen (va_Pc [.ref (a_d 0), .ref (a_c 0)] (RO g (wD g a_d d ++ wC g a_c c))) (vp_Si (fun x => x = res)) 0 0 (fun _ => False) := by
  refine Met_roz (cc := cX1_isAsSeen) (maxL := 3) (by decide) rfl (Nat.le_of_ble_eq_true rfl) ?_
  intro P E Z Mi AR BE ME CO Q C fin hK hP ls hl
  have hl : lv_has ls 3 [(0, .ref (a_d 0)), (1, .ref (a_c 0))] := hl
  unfold fX1_isAsSeen at hf
  refine lv_iconst (v := 0) C.1 C.2.1 (dk_at dkX1_isAsSeen 0 rfl) (by decide) ?_
  refine lv_istore_n (lv' := [(2, .int 0), (0, .ref (a_d 0)), (1, .ref (a_c 0))]) C.1 C.2.1 (dk_at dkX1_isAsSeen 1 rfl) rfl hl (by decide) rfl (fun ls hl => ?_)
  have L2 : ∀ (K : Int32 → Option (Int32)), (∀ (v1 : Int32) (ls : Array Slot), lv_has ls 3 [] → K v1 = some res → W P l E rmX1_isAsSeen Z Mi AR BE ME CO Z.heap [] 0 0 Q (F0 Mi 38 ls [])) → ∀ (n : Nat), ∀ (v1 : Int32) (ls : Array Slot), lv_has ls 3 [(2, .int v1), (0, .ref (a_d 0)), (1, .ref (a_c 0))] → fX1_isAsSeen_L2 d c K n v1 = some res → W P l E rmX1_isAsSeen Z Mi AR BE ME CO Z.heap [] 0 0 Q (F0 Mi 2 ls []) := by
    intro K hKe n
    induction n with
    | zero => intro v1 ls hl hf; cases hf
    | succ n ih =>
      intro v1 ls hl hf
      rw [fX1_isAsSeen_L2] at hf
      refine lv_iload_n C.1 C.2.1 (dk_at dkX1_isAsSeen 2 rfl) rfl (lv_at hl 0 rfl) ?_
      refine lv_aload_n C.1 C.2.1 (dk_at dkX1_isAsSeen 3 rfl) rfl (lv_at hl 2 rfl) ?_
      refine r_get (v := .int (cSe c)) C hK hP (fun w h => List.mem_cons_of_mem _ (inlX0 w h)) 6 rfl rfl 8 (by decide) (List.mem_cons_of_mem _ (inr36 _ (List.mem_of_getElem? (i := 9) rfl))) rfl (dk_at dkX1_isAsSeen 4 rfl) ?_
      refine lv_icmp_ge (tgt := 38) C.1 C.2.1 (dk_at dkX1_isAsSeen 5 rfl) (by decide) (fun c3 => ?_) (fun c3 => ?_)
      · have hf := (if_pos c3).symm.trans hf
        exact hKe v1 _ (lv_sub hl [] rfl) hf
      · have hf := (if_neg c3).symm.trans hf
        refine lv_aload_n C.1 C.2.1 (dk_at dkX1_isAsSeen 6 rfl) rfl (lv_at hl 1 rfl) ?_
        refine r_get (v := .ref (a_d 1)) C hK hP (fun w h => List.mem_cons_of_mem _ (inlX1 w h)) 0 rfl rfl 0 (by decide) (List.mem_cons_of_mem _ (inr3 _ (List.mem_of_getElem? (i := 15) rfl))) rfl (dk_at dkX1_isAsSeen 7 rfl) ?_
        refine lv_aload_n C.1 C.2.1 (dk_at dkX1_isAsSeen 8 rfl) rfl (lv_at hl 2 rfl) ?_
        refine r_get (v := .ref (a_c 9)) C hK hP (fun w h => List.mem_cons_of_mem _ (inlX0 w h)) 6 rfl rfl 6 (by decide) (List.mem_cons_of_mem _ (inr36 _ (List.mem_of_getElem? (i := 10) rfl))) rfl (dk_at dkX1_isAsSeen 9 rfl) ?_
        refine lv_iload_n C.1 C.2.1 (dk_at dkX1_isAsSeen 10 rfl) rfl (lv_at hl 0 rfl) ?_
        obtain ⟨h4, hf⟩ := gd_at hf
        refine r_iald (k := v1.toNatClampNeg) (f := (cSs c)) C hK hP 15 rfl h4 rfl (dk_at dkX1_isAsSeen 11 rfl) ?_
        refine lv_topi (fun x5 ex5 => ?_)
        have hf := nm_at ex5 hf
        obtain ⟨h6, hf⟩ := gd_at hf
        refine r_iald (k := x5.toNatClampNeg) (f := (dPl d)) C hK hP 1 rfl h6 rfl (dk_at dkX1_isAsSeen 12 rfl) ?_
        refine lv_topi (fun x7 ex7 => ?_)
        have hf := nm_at ex7 hf
        refine lv_aload_n C.1 C.2.1 (dk_at dkX1_isAsSeen 13 rfl) rfl (lv_at hl 2 rfl) ?_
        refine r_get (v := .ref (a_c 10)) C hK hP (fun w h => List.mem_cons_of_mem _ (inlX0 w h)) 6 rfl rfl 7 (by decide) (List.mem_cons_of_mem _ (inr36 _ (List.mem_of_getElem? (i := 11) rfl))) rfl (dk_at dkX1_isAsSeen 14 rfl) ?_
        refine lv_iload_n C.1 C.2.1 (dk_at dkX1_isAsSeen 15 rfl) rfl (lv_at hl 0 rfl) ?_
        obtain ⟨h8, hf⟩ := gd_at hf
        refine r_iald (k := v1.toNatClampNeg) (f := (cSp c)) C hK hP 16 rfl h8 rfl (dk_at dkX1_isAsSeen 16 rfl) ?_
        refine lv_icmp_eq (tgt := 32) C.1 C.2.1 (dk_at dkX1_isAsSeen 17 rfl) (by decide) (fun c9 => ?_) (fun c9 => ?_)
        · have hf := (if_pos c9).symm.trans hf
          obtain ⟨x10, ex10⟩ : ∃ z : Int32, z = v1 + 1 := ⟨_, rfl⟩
          have hf := nm_at ex10 hf
          refine lv_iinc (v := x10) (lv' := [(2, .int x10), (0, .ref (a_d 0)), (1, .ref (a_c 0))]) C.1 C.2.1 (dk_at dkX1_isAsSeen 20 rfl) hl (k := 0) rfl (by rw [ex10]; rfl) (by decide) rfl (fun ls hl => ?_)
          refine lv_goto (tgt := 2) C.1 C.2.1 (dk_at dkX1_isAsSeen 21 rfl) (by decide) ?_
          exact ih x10 _ (lv_sub hl [0, 1, 2] rfl) hf
        · have hf := (if_neg c9).symm.trans hf
          refine lv_iconst (v := 0) C.1 C.2.1 (dk_at dkX1_isAsSeen 18 rfl) (by decide) ?_
          cases hf
          exact fin _ _ _ (dk_at dkX1_isAsSeen 19 rfl) rfl rfl
  refine L2 _ ?_ 4096 0 _ (lv_sub hl [0, 1, 2] rfl) hf
  clear hf
  intro v1 ls hl hf
  refine lv_iconst (v := 1) C.1 C.2.1 (dk_at dkX1_isAsSeen 22 rfl) (by decide) ?_
  cases hf
  exact fin _ _ _ (dk_at dkX1_isAsSeen 23 rfl) rfl rfl
