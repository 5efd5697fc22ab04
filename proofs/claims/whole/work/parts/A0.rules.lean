-- X3.isCell
abbrev tbX3_isCell : List (Nat × Instr × Nat) := [(0, .iload_n 0, 1), (1, .ifCond .lt 22, 3), (4, .iload_n 0, 1), (5, .bipush 77, 2), (7, .if_icmp .gt 16, 3), (10, .iload_n 0, 1), (11, .bipush 10, 2), (13, .irem, 1), (14, .bipush 7, 2), (16, .if_icmp .gt 7, 3), (19, .iconst 1, 1), (20, .goto 4, 3), (23, .iconst 0, 1), (24, .ireturn, 1)]
theorem dkX3_isCell : dk cX3_isCell tbX3_isCell := dk_of (by decide +kernel)
abbrev cdX3_isCell : Cond := Cond.code yX3_isCell cX3_isCell 1 (some .boolean)
abbrev rmX3_isCell : Room := { frames := 0, cells := 0, slots := 0, locals := 0 }
theorem mwX3_isCell : Cond.static yX3_isCell ∈ wsL_law ∧ Cond.initialized yX3_isCell.cls ∈ wsL_law ∧ cdX3_isCell ∈ wsL_law := ⟨inr10 _ (List.mem_of_getElem? (i := 19) rfl), inr10 _ (List.mem_of_getElem? (i := 16) rfl), inr10 _ (List.mem_of_getElem? (i := 20) rfl)⟩
theorem hdX3_isCell : yX3_isCell.cls ≠ "java/lang/invoke/MethodHandle" ∧ yX3_isCell.cls ≠ "java/lang/invoke/VarHandle" ∧ (parseMethodDescriptor yX3_isCell.desc).map (fun d => d.parameters.length) = some 1 := by decide +kernel
set_option maxHeartbeats 4000000 in
set_option maxRecDepth 100000 in
theorem kX3_isCell (l : Launch) (p1 : Int32) (res : Int32) (hf : fX3_isCell p1 = some res) : Met l yX3_isCell (cdX3_isCell :: wsL_law) rmX3_isCell (va_Pc [.int p1] (fun _ => True)) (vp_Si (fun x => x = res)) 0 0 (fun _ => False) := by
  refine Met_stz (cc := cX3_isCell) (maxL := 1) (by decide) rfl (Nat.le_of_ble_eq_true rfl) ?_
  intro P E Z Mi AR BE ME CO Q C fin ls hl
  have hl : lv_has ls 1 [(0, .int p1)] := hl
  unfold fX3_isCell at hf
  refine lv_iload_n C.1 C.2.1 (dk_at dkX3_isCell 0 rfl) rfl (lv_at hl 0 rfl) ?_
  refine lv_if_lt (tgt := 23) C.1 C.2.1 (dk_at dkX3_isCell 1 rfl) (by decide) (fun c1 => ?_) (fun c1 => ?_)
  · have hf := (if_pos c1).symm.trans hf
    refine lv_iconst (v := 0) C.1 C.2.1 (dk_at dkX3_isCell 12 rfl) (by decide) ?_
    cases hf
    exact fin _ _ _ (dk_at dkX3_isCell 13 rfl) rfl rfl
  · have hf := (if_neg c1).symm.trans hf
    refine lv_iload_n C.1 C.2.1 (dk_at dkX3_isCell 2 rfl) rfl (lv_at hl 0 rfl) ?_
    refine lv_bipush (v := 77) C.1 C.2.1 (dk_at dkX3_isCell 3 rfl) (by decide) ?_
    refine lv_icmp_gt (tgt := 23) C.1 C.2.1 (dk_at dkX3_isCell 4 rfl) (by decide) (fun c2 => ?_) (fun c2 => ?_)
    · have hf := (if_pos c2).symm.trans hf
      refine lv_iconst (v := 0) C.1 C.2.1 (dk_at dkX3_isCell 12 rfl) (by decide) ?_
      cases hf
      exact fin _ _ _ (dk_at dkX3_isCell 13 rfl) rfl rfl
    · have hf := (if_neg c2).symm.trans hf
      refine lv_iload_n C.1 C.2.1 (dk_at dkX3_isCell 5 rfl) rfl (lv_at hl 0 rfl) ?_
      refine lv_bipush (v := 10) C.1 C.2.1 (dk_at dkX3_isCell 6 rfl) (by decide) ?_
      refine lv_irem C.1 C.2.1 (dk_at dkX3_isCell 7 rfl) (by decide) ?_
      refine lv_topi (fun x3 ex3 => ?_)
      have hf := nm_at ex3 hf
      refine lv_bipush (v := 7) C.1 C.2.1 (dk_at dkX3_isCell 8 rfl) (by decide) ?_
      refine lv_icmp_gt (tgt := 23) C.1 C.2.1 (dk_at dkX3_isCell 9 rfl) (by decide) (fun c4 => ?_) (fun c4 => ?_)
      · have hf := (if_pos c4).symm.trans hf
        refine lv_iconst (v := 0) C.1 C.2.1 (dk_at dkX3_isCell 12 rfl) (by decide) ?_
        cases hf
        exact fin _ _ _ (dk_at dkX3_isCell 13 rfl) rfl rfl
      · have hf := (if_neg c4).symm.trans hf
        refine lv_iconst (v := 1) C.1 C.2.1 (dk_at dkX3_isCell 10 rfl) (by decide) ?_
        refine lv_goto (tgt := 24) C.1 C.2.1 (dk_at dkX3_isCell 11 rfl) (by decide) ?_
        cases hf
        exact fin _ _ _ (dk_at dkX3_isCell 13 rfl) rfl rfl
-- X3.placeOf
abbrev tbX3_placeOf : List (Nat × Instr × Nat) := [(0, .iload_n 0, 1), (1, .bipush 10, 2), (3, .idiv, 1), (4, .bipush 8, 2), (6, .imul, 1), (7, .iload_n 0, 1), (8, .bipush 10, 2), (10, .irem, 1), (11, .iadd, 1), (12, .ireturn, 1)]
theorem dkX3_placeOf : dk cX3_placeOf tbX3_placeOf := dk_of (by decide +kernel)
abbrev cdX3_placeOf : Cond := Cond.code yX3_placeOf cX3_placeOf 1 (some .int)
abbrev rmX3_placeOf : Room := { frames := 0, cells := 0, slots := 0, locals := 0 }
theorem mwX3_placeOf : Cond.static yX3_placeOf ∈ wsL_law ∧ Cond.initialized yX3_placeOf.cls ∈ wsL_law ∧ cdX3_placeOf ∈ wsL_law := ⟨inr11 _ (List.mem_of_getElem? (i := 14) rfl), inr10 _ (List.mem_of_getElem? (i := 16) rfl), inr11 _ (List.mem_of_getElem? (i := 15) rfl)⟩
theorem hdX3_placeOf : yX3_placeOf.cls ≠ "java/lang/invoke/MethodHandle" ∧ yX3_placeOf.cls ≠ "java/lang/invoke/VarHandle" ∧ (parseMethodDescriptor yX3_placeOf.desc).map (fun d => d.parameters.length) = some 1 := by decide +kernel
set_option maxHeartbeats 4000000 in
set_option maxRecDepth 100000 in
theorem kX3_placeOf (l : Launch) (p1 : Int32) (res : Int32) (hf : fX3_placeOf p1 = some res) : Met l yX3_placeOf (cdX3_placeOf :: wsL_law) rmX3_placeOf (va_Pc [.int p1] (fun _ => True)) (vp_Si (fun x => x = res)) 0 0 (fun _ => False) := by
  refine Met_sti (cc := cX3_placeOf) (maxL := 1) (by decide) rfl (Nat.le_of_ble_eq_true rfl) ?_
  intro P E Z Mi AR BE ME CO Q C fin ls hl
  have hl : lv_has ls 1 [(0, .int p1)] := hl
  unfold fX3_placeOf at hf
  refine lv_iload_n C.1 C.2.1 (dk_at dkX3_placeOf 0 rfl) rfl (lv_at hl 0 rfl) ?_
  refine lv_bipush (v := 10) C.1 C.2.1 (dk_at dkX3_placeOf 1 rfl) (by decide) ?_
  refine lv_idiv C.1 C.2.1 (dk_at dkX3_placeOf 2 rfl) (by decide) ?_
  refine lv_topi (fun x1 ex1 => ?_)
  have hf := nm_at ex1 hf
  refine lv_bipush (v := 8) C.1 C.2.1 (dk_at dkX3_placeOf 3 rfl) (by decide) ?_
  refine lv_imul C.1 C.2.1 (dk_at dkX3_placeOf 4 rfl) ?_
  refine lv_topi (fun x2 ex2 => ?_)
  have hf := nm_at ex2 hf
  refine lv_iload_n C.1 C.2.1 (dk_at dkX3_placeOf 5 rfl) rfl (lv_at hl 0 rfl) ?_
  refine lv_bipush (v := 10) C.1 C.2.1 (dk_at dkX3_placeOf 6 rfl) (by decide) ?_
  refine lv_irem C.1 C.2.1 (dk_at dkX3_placeOf 7 rfl) (by decide) ?_
  refine lv_iadd C.1 C.2.1 (dk_at dkX3_placeOf 8 rfl) ?_
  refine lv_topi (fun x3 ex3 => ?_)
  have hf := nm_at ex3 hf
  cases hf
  exact fin _ _ _ (dk_at dkX3_placeOf 9 rfl) rfl
-- X3.cellOf
abbrev tbX3_cellOf : List (Nat × Instr × Nat) := [(0, .iload_n 0, 1), (1, .bipush 8, 2), (3, .idiv, 1), (4, .bipush 10, 2), (6, .imul, 1), (7, .iload_n 0, 1), (8, .bipush 8, 2), (10, .irem, 1), (11, .iadd, 1), (12, .ireturn, 1)]
theorem dkX3_cellOf : dk cX3_cellOf tbX3_cellOf := dk_of (by decide +kernel)
abbrev cdX3_cellOf : Cond := Cond.code yX3_cellOf cX3_cellOf 1 (some .int)
abbrev rmX3_cellOf : Room := { frames := 0, cells := 0, slots := 0, locals := 0 }
theorem mwX3_cellOf : Cond.static yX3_cellOf ∈ wsL_law ∧ Cond.initialized yX3_cellOf.cls ∈ wsL_law ∧ cdX3_cellOf ∈ wsL_law := ⟨inr24 _ (List.mem_of_getElem? (i := 22) rfl), inr10 _ (List.mem_of_getElem? (i := 16) rfl), inr24 _ (List.mem_of_getElem? (i := 23) rfl)⟩
theorem hdX3_cellOf : yX3_cellOf.cls ≠ "java/lang/invoke/MethodHandle" ∧ yX3_cellOf.cls ≠ "java/lang/invoke/VarHandle" ∧ (parseMethodDescriptor yX3_cellOf.desc).map (fun d => d.parameters.length) = some 1 := by decide +kernel
set_option maxHeartbeats 4000000 in
set_option maxRecDepth 100000 in
theorem kX3_cellOf (l : Launch) (p1 : Int32) (res : Int32) (hf : fX3_cellOf p1 = some res) : Met l yX3_cellOf (cdX3_cellOf :: wsL_law) rmX3_cellOf (va_Pc [.int p1] (fun _ => True)) (vp_Si (fun x => x = res)) 0 0 (fun _ => False) := by
  refine Met_sti (cc := cX3_cellOf) (maxL := 1) (by decide) rfl (Nat.le_of_ble_eq_true rfl) ?_
  intro P E Z Mi AR BE ME CO Q C fin ls hl
  have hl : lv_has ls 1 [(0, .int p1)] := hl
  unfold fX3_cellOf at hf
  refine lv_iload_n C.1 C.2.1 (dk_at dkX3_cellOf 0 rfl) rfl (lv_at hl 0 rfl) ?_
  refine lv_bipush (v := 8) C.1 C.2.1 (dk_at dkX3_cellOf 1 rfl) (by decide) ?_
  refine lv_idiv C.1 C.2.1 (dk_at dkX3_cellOf 2 rfl) (by decide) ?_
  refine lv_topi (fun x1 ex1 => ?_)
  have hf := nm_at ex1 hf
  refine lv_bipush (v := 10) C.1 C.2.1 (dk_at dkX3_cellOf 3 rfl) (by decide) ?_
  refine lv_imul C.1 C.2.1 (dk_at dkX3_cellOf 4 rfl) ?_
  refine lv_topi (fun x2 ex2 => ?_)
  have hf := nm_at ex2 hf
  refine lv_iload_n C.1 C.2.1 (dk_at dkX3_cellOf 5 rfl) rfl (lv_at hl 0 rfl) ?_
  refine lv_bipush (v := 8) C.1 C.2.1 (dk_at dkX3_cellOf 6 rfl) (by decide) ?_
  refine lv_irem C.1 C.2.1 (dk_at dkX3_cellOf 7 rfl) (by decide) ?_
  refine lv_iadd C.1 C.2.1 (dk_at dkX3_cellOf 8 rfl) ?_
  refine lv_topi (fun x3 ex3 => ?_)
  have hf := nm_at ex3 hf
  cases hf
  exact fin _ _ _ (dk_at dkX3_cellOf 9 rfl) rfl
-- X3.has
abbrev tbX3_has : List (Nat × Instr × Nat) := [(0, .lload_n 0, 1), (1, .iload_n 2, 1), (2, .lushr, 1), (3, .lconst 1, 1), (4, .land, 1), (5, .lconst 0, 1), (6, .lcmp, 1), (7, .ifCond .eq 7, 3), (10, .iconst 1, 1), (11, .goto 4, 3), (14, .iconst 0, 1), (15, .ireturn, 1)]
theorem dkX3_has : dk cX3_has tbX3_has := dk_of (by decide +kernel)
abbrev cdX3_has : Cond := Cond.code yX3_has cX3_has 3 (some .boolean)
abbrev rmX3_has : Room := { frames := 0, cells := 0, slots := 0, locals := 0 }
theorem mwX3_has : Cond.static yX3_has ∈ wsL_law ∧ Cond.initialized yX3_has.cls ∈ wsL_law ∧ cdX3_has ∈ wsL_law := ⟨inr11 _ (List.mem_of_getElem? (i := 17) rfl), inr10 _ (List.mem_of_getElem? (i := 16) rfl), inr11 _ (List.mem_of_getElem? (i := 18) rfl)⟩
theorem hdX3_has : yX3_has.cls ≠ "java/lang/invoke/MethodHandle" ∧ yX3_has.cls ≠ "java/lang/invoke/VarHandle" ∧ (parseMethodDescriptor yX3_has.desc).map (fun d => d.parameters.length) = some 2 := by decide +kernel
set_option maxHeartbeats 4000000 in
set_option maxRecDepth 100000 in
theorem kX3_has (l : Launch) (p1 : Int64) (p2 : Int32) (res : Int32) (hf : fX3_has p1 p2 = some res) : Met l yX3_has (cdX3_has :: wsL_law) rmX3_has (va_Pc [.long p1, .int p2] (fun _ => True)) (vp_Si (fun x => x = res)) 0 0 (fun _ => False) := by
  refine Met_stz (cc := cX3_has) (maxL := 3) (by decide) rfl (Nat.le_of_ble_eq_true rfl) ?_
  intro P E Z Mi AR BE ME CO Q C fin ls hl
  have hl : lv_has ls 3 [(0, .long p1), (2, .int p2)] := hl
  unfold fX3_has at hf
  refine lv_lload_n C.1 C.2.1 (dk_at dkX3_has 0 rfl) rfl (lv_at hl 0 rfl) ?_
  refine lv_iload_n C.1 C.2.1 (dk_at dkX3_has 1 rfl) rfl (lv_at hl 1 rfl) ?_
  refine lv_lushr C.1 C.2.1 (dk_at dkX3_has 2 rfl) rfl ?_
  refine lv_topl (fun x1 ex1 => ?_)
  have hf := nm_at ex1 hf
  refine lv_lconst (v := 1) C.1 C.2.1 (dk_at dkX3_has 3 rfl) (by decide) ?_
  refine lv_land C.1 C.2.1 (dk_at dkX3_has 4 rfl) ?_
  refine lv_topl (fun x2 ex2 => ?_)
  have hf := nm_at ex2 hf
  refine lv_lconst (v := 0) C.1 C.2.1 (dk_at dkX3_has 5 rfl) (by decide) ?_
  refine W.lcmp C.1 C.2.1 (dk_at dkX3_has 6 rfl) ?_
  refine lv_if_eq (tgt := 14) C.1 C.2.1 (dk_at dkX3_has 7 rfl) (by decide) (fun c3 => ?_) (fun c3 => ?_)
  · have hf := (if_pos c3).symm.trans hf
    refine lv_iconst (v := 0) C.1 C.2.1 (dk_at dkX3_has 10 rfl) (by decide) ?_
    cases hf
    exact fin _ _ _ (dk_at dkX3_has 11 rfl) rfl rfl
  · have hf := (if_neg c3).symm.trans hf
    refine lv_iconst (v := 1) C.1 C.2.1 (dk_at dkX3_has 8 rfl) (by decide) ?_
    refine lv_goto (tgt := 15) C.1 C.2.1 (dk_at dkX3_has 9 rfl) (by decide) ?_
    cases hf
    exact fin _ _ _ (dk_at dkX3_has 11 rfl) rfl rfl
-- X3.isOutOfTen
abbrev tbX3_isOutOfTen : List (Nat × Instr × Nat) := [(0, .iload_n 0, 1), (1, .ifCond .lt 13, 3), (4, .iload_n 0, 1), (5, .bipush 10, 2), (7, .if_icmp .gt 7, 3), (10, .iconst 1, 1), (11, .goto 4, 3), (14, .iconst 0, 1), (15, .ireturn, 1)]
theorem dkX3_isOutOfTen : dk cX3_isOutOfTen tbX3_isOutOfTen := dk_of (by decide +kernel)
abbrev cdX3_isOutOfTen : Cond := Cond.code yX3_isOutOfTen cX3_isOutOfTen 1 (some .boolean)
abbrev rmX3_isOutOfTen : Room := { frames := 0, cells := 0, slots := 0, locals := 0 }
theorem mwX3_isOutOfTen : Cond.static yX3_isOutOfTen ∈ wsL_law ∧ Cond.initialized yX3_isOutOfTen.cls ∈ wsL_law ∧ cdX3_isOutOfTen ∈ wsL_law := ⟨inr33 _ (List.mem_of_getElem? (i := 12) rfl), inr10 _ (List.mem_of_getElem? (i := 16) rfl), inr33 _ (List.mem_of_getElem? (i := 13) rfl)⟩
theorem hdX3_isOutOfTen : yX3_isOutOfTen.cls ≠ "java/lang/invoke/MethodHandle" ∧ yX3_isOutOfTen.cls ≠ "java/lang/invoke/VarHandle" ∧ (parseMethodDescriptor yX3_isOutOfTen.desc).map (fun d => d.parameters.length) = some 1 := by decide +kernel
set_option maxHeartbeats 4000000 in
set_option maxRecDepth 100000 in
theorem kX3_isOutOfTen (l : Launch) (p1 : Int32) (res : Int32) (hf : fX3_isOutOfTen p1 = some res) : Met l yX3_isOutOfTen (cdX3_isOutOfTen :: wsL_law) rmX3_isOutOfTen (va_Pc [.int p1] (fun _ => True)) (vp_Si (fun x => x = res)) 0 0 (fun _ => False) := by
  refine Met_stz (cc := cX3_isOutOfTen) (maxL := 1) (by decide) rfl (Nat.le_of_ble_eq_true rfl) ?_
  intro P E Z Mi AR BE ME CO Q C fin ls hl
  have hl : lv_has ls 1 [(0, .int p1)] := hl
  unfold fX3_isOutOfTen at hf
  refine lv_iload_n C.1 C.2.1 (dk_at dkX3_isOutOfTen 0 rfl) rfl (lv_at hl 0 rfl) ?_
  refine lv_if_lt (tgt := 14) C.1 C.2.1 (dk_at dkX3_isOutOfTen 1 rfl) (by decide) (fun c1 => ?_) (fun c1 => ?_)
  · have hf := (if_pos c1).symm.trans hf
    refine lv_iconst (v := 0) C.1 C.2.1 (dk_at dkX3_isOutOfTen 7 rfl) (by decide) ?_
    cases hf
    exact fin _ _ _ (dk_at dkX3_isOutOfTen 8 rfl) rfl rfl
  · have hf := (if_neg c1).symm.trans hf
    refine lv_iload_n C.1 C.2.1 (dk_at dkX3_isOutOfTen 2 rfl) rfl (lv_at hl 0 rfl) ?_
    refine lv_bipush (v := 10) C.1 C.2.1 (dk_at dkX3_isOutOfTen 3 rfl) (by decide) ?_
    refine lv_icmp_gt (tgt := 14) C.1 C.2.1 (dk_at dkX3_isOutOfTen 4 rfl) (by decide) (fun c2 => ?_) (fun c2 => ?_)
    · have hf := (if_pos c2).symm.trans hf
      refine lv_iconst (v := 0) C.1 C.2.1 (dk_at dkX3_isOutOfTen 7 rfl) (by decide) ?_
      cases hf
      exact fin _ _ _ (dk_at dkX3_isOutOfTen 8 rfl) rfl rfl
    · have hf := (if_neg c2).symm.trans hf
      refine lv_iconst (v := 1) C.1 C.2.1 (dk_at dkX3_isOutOfTen 5 rfl) (by decide) ?_
      refine lv_goto (tgt := 15) C.1 C.2.1 (dk_at dkX3_isOutOfTen 6 rfl) (by decide) ?_
      cases hf
      exact fin _ _ _ (dk_at dkX3_isOutOfTen 8 rfl) rfl rfl
-- X3.reachBy
abbrev tbX3_reachBy : List (Nat × Instr × Nat) := [(0, .iload_n 1, 1), (1, .iconst 1, 1), (2, .iadd, 1), (3, .iconst 2, 1), (4, .idiv, 1), (5, .istore_n 2, 1), (6, .iload_n 0, 1), (7, .tableswitch 35 1 3 #[25, 27, 31], 25), (32, .iload_n 2, 1), (33, .ireturn, 1), (34, .iload_n 1, 1), (35, .iconst 1, 1), (36, .isub, 1), (37, .ireturn, 1), (38, .iconst 2, 1), (39, .iload_n 2, 1), (40, .imul, 1), (41, .ireturn, 1), (42, .iload_n 1, 1), (43, .ireturn, 1)]
theorem dkX3_reachBy : dk cX3_reachBy tbX3_reachBy := dk_of (by decide +kernel)
abbrev cdX3_reachBy : Cond := Cond.code yX3_reachBy cX3_reachBy 3 (some .int)
abbrev rmX3_reachBy : Room := { frames := 0, cells := 0, slots := 0, locals := 0 }
theorem mwX3_reachBy : Cond.static yX3_reachBy ∈ wsL_law ∧ Cond.initialized yX3_reachBy.cls ∈ wsL_law ∧ cdX3_reachBy ∈ wsL_law := ⟨inr18 _ (List.mem_of_getElem? (i := 3) rfl), inr10 _ (List.mem_of_getElem? (i := 16) rfl), inr18 _ (List.mem_of_getElem? (i := 4) rfl)⟩
theorem hdX3_reachBy : yX3_reachBy.cls ≠ "java/lang/invoke/MethodHandle" ∧ yX3_reachBy.cls ≠ "java/lang/invoke/VarHandle" ∧ (parseMethodDescriptor yX3_reachBy.desc).map (fun d => d.parameters.length) = some 2 := by decide +kernel
set_option maxHeartbeats 4000000 in
set_option maxRecDepth 100000 in
theorem kX3_reachBy (l : Launch) (p1 : Int32) (p2 : Int32) (res : Int32) (hf : fX3_reachBy p1 p2 = some res) : Met l yX3_reachBy (cdX3_reachBy :: wsL_law) rmX3_reachBy (va_Pc [.int p1, .int p2] (fun _ => True)) (vp_Si (fun x => x = res)) 0 0 (fun _ => False) := by
  refine Met_sti (cc := cX3_reachBy) (maxL := 3) (by decide) rfl (Nat.le_of_ble_eq_true rfl) ?_
  intro P E Z Mi AR BE ME CO Q C fin ls hl
  have hl : lv_has ls 3 [(0, .int p1), (1, .int p2)] := hl
  unfold fX3_reachBy at hf
  refine lv_iload_n C.1 C.2.1 (dk_at dkX3_reachBy 0 rfl) rfl (lv_at hl 1 rfl) ?_
  refine lv_iconst (v := 1) C.1 C.2.1 (dk_at dkX3_reachBy 1 rfl) (by decide) ?_
  refine lv_iadd C.1 C.2.1 (dk_at dkX3_reachBy 2 rfl) ?_
  refine lv_topi (fun x1 ex1 => ?_)
  have hf := nm_at ex1 hf
  refine lv_iconst (v := 2) C.1 C.2.1 (dk_at dkX3_reachBy 3 rfl) (by decide) ?_
  refine lv_idiv C.1 C.2.1 (dk_at dkX3_reachBy 4 rfl) (by decide) ?_
  refine lv_topi (fun x2 ex2 => ?_)
  have hf := nm_at ex2 hf
  refine lv_istore_n (lv' := [(2, .int x2), (0, .int p1), (1, .int p2)]) C.1 C.2.1 (dk_at dkX3_reachBy 5 rfl) rfl hl (by decide) rfl (fun ls hl => ?_)
  refine lv_iload_n C.1 C.2.1 (dk_at dkX3_reachBy 6 rfl) rfl (lv_at hl 1 rfl) ?_
  by_cases c3 : p1 = 1
  · have hf := (if_pos c3).symm.trans hf
    refine lv_tableIn (tgt := 32) C.1 C.2.1 (dk_at dkX3_reachBy 7 rfl) (by rw [c3]; decide) (by rw [c3]; decide) (by rw [c3]; rfl) (by decide) ?_
    refine lv_iload_n C.1 C.2.1 (dk_at dkX3_reachBy 8 rfl) rfl (lv_at hl 0 rfl) ?_
    cases hf
    exact fin _ _ _ (dk_at dkX3_reachBy 9 rfl) rfl
  have hf := (if_neg c3).symm.trans hf
  by_cases c4 : p1 = 2
  · have hf := (if_pos c4).symm.trans hf
    refine lv_tableIn (tgt := 34) C.1 C.2.1 (dk_at dkX3_reachBy 7 rfl) (by rw [c4]; decide) (by rw [c4]; decide) (by rw [c4]; rfl) (by decide) ?_
    refine lv_iload_n C.1 C.2.1 (dk_at dkX3_reachBy 10 rfl) rfl (lv_at hl 2 rfl) ?_
    refine lv_iconst (v := 1) C.1 C.2.1 (dk_at dkX3_reachBy 11 rfl) (by decide) ?_
    refine lv_isub C.1 C.2.1 (dk_at dkX3_reachBy 12 rfl) ?_
    refine lv_topi (fun x5 ex5 => ?_)
    have hf := nm_at ex5 hf
    cases hf
    exact fin _ _ _ (dk_at dkX3_reachBy 13 rfl) rfl
  have hf := (if_neg c4).symm.trans hf
  by_cases c6 : p1 = 3
  · have hf := (if_pos c6).symm.trans hf
    refine lv_tableIn (tgt := 38) C.1 C.2.1 (dk_at dkX3_reachBy 7 rfl) (by rw [c6]; decide) (by rw [c6]; decide) (by rw [c6]; rfl) (by decide) ?_
    refine lv_iconst (v := 2) C.1 C.2.1 (dk_at dkX3_reachBy 14 rfl) (by decide) ?_
    refine lv_iload_n C.1 C.2.1 (dk_at dkX3_reachBy 15 rfl) rfl (lv_at hl 0 rfl) ?_
    refine lv_imul C.1 C.2.1 (dk_at dkX3_reachBy 16 rfl) ?_
    refine lv_topi (fun x7 ex7 => ?_)
    have hf := nm_at ex7 hf
    cases hf
    exact fin _ _ _ (dk_at dkX3_reachBy 17 rfl) rfl
  have hf := (if_neg c6).symm.trans hf
  have c3n : p1.toInt ≠ 1 := fun q => c3 (by rw [← Int32.ofInt_toInt p1, q]; rfl)
  have c4n : p1.toInt ≠ 2 := fun q => c4 (by rw [← Int32.ofInt_toInt p1, q]; rfl)
  have c6n : p1.toInt ≠ 3 := fun q => c6 (by rw [← Int32.ofInt_toInt p1, q]; rfl)
  refine lv_tableOut (tgt := 42) C.1 C.2.1 (dk_at dkX3_reachBy 7 rfl) (by omega) (by decide) ?_
  refine lv_iload_n C.1 C.2.1 (dk_at dkX3_reachBy 18 rfl) rfl (lv_at hl 2 rfl) ?_
  cases hf
  exact fin _ _ _ (dk_at dkX3_reachBy 19 rfl) rfl
-- X3.onFrom
abbrev tbX3_onFrom : List (Nat × Instr × Nat) := [(0, .iload_n 0, 1), (1, .bipush 8, 2), (3, .idiv, 1), (4, .istore_n 2, 1), (5, .iload_n 0, 1), (6, .bipush 8, 2), (8, .irem, 1), (9, .istore_n 3, 1), (10, .iload_n 1, 1), (11, .tableswitch 83 0 3 #[29, 43, 58, 70], 29), (40, .iload_n 3, 1), (41, .bipush 7, 2), (43, .if_icmp .ge 9, 3), (46, .iload_n 0, 1), (47, .iconst 1, 1), (48, .iadd, 1), (49, .goto 4, 3), (52, .iconst (-1), 1), (53, .ireturn, 1), (54, .iload_n 2, 1), (55, .bipush 7, 2), (57, .if_icmp .ge 10, 3), (60, .iload_n 0, 1), (61, .bipush 8, 2), (63, .iadd, 1), (64, .goto 4, 3), (67, .iconst (-1), 1), (68, .ireturn, 1), (69, .iload_n 3, 1), (70, .ifCond .le 9, 3), (73, .iload_n 0, 1), (74, .iconst 1, 1), (75, .isub, 1), (76, .goto 4, 3), (79, .iconst (-1), 1), (80, .ireturn, 1), (81, .iload_n 2, 1), (82, .ifCond .le 10, 3), (85, .iload_n 0, 1), (86, .bipush 8, 2), (88, .isub, 1), (89, .goto 4, 3), (92, .iconst (-1), 1), (93, .ireturn, 1), (94, .iconst (-1), 1), (95, .ireturn, 1)]
theorem dkX3_onFrom : dk cX3_onFrom tbX3_onFrom := dk_of (by decide +kernel)
abbrev cdX3_onFrom : Cond := Cond.code yX3_onFrom cX3_onFrom 4 (some .int)
abbrev rmX3_onFrom : Room := { frames := 0, cells := 0, slots := 0, locals := 0 }
theorem mwX3_onFrom : Cond.static yX3_onFrom ∈ wsL_law ∧ Cond.initialized yX3_onFrom.cls ∈ wsL_law ∧ cdX3_onFrom ∈ wsL_law := ⟨inr24 _ (List.mem_of_getElem? (i := 9) rfl), inr10 _ (List.mem_of_getElem? (i := 16) rfl), inr24 _ (List.mem_of_getElem? (i := 10) rfl)⟩
theorem hdX3_onFrom : yX3_onFrom.cls ≠ "java/lang/invoke/MethodHandle" ∧ yX3_onFrom.cls ≠ "java/lang/invoke/VarHandle" ∧ (parseMethodDescriptor yX3_onFrom.desc).map (fun d => d.parameters.length) = some 2 := by decide +kernel
set_option maxHeartbeats 4000000 in
set_option maxRecDepth 100000 in
theorem kX3_onFrom (l : Launch) (p1 : Int32) (p2 : Int32) (res : Int32) (hf : fX3_onFrom p1 p2 = some res) : Met l yX3_onFrom (cdX3_onFrom :: wsL_law) rmX3_onFrom (va_Pc [.int p1, .int p2] (fun _ => True)) (vp_Si (fun x => x = res)) 0 0 (fun _ => False) := by
  refine Met_sti (cc := cX3_onFrom) (maxL := 4) (by decide) rfl (Nat.le_of_ble_eq_true rfl) ?_
  intro P E Z Mi AR BE ME CO Q C fin ls hl
  have hl : lv_has ls 4 [(0, .int p1), (1, .int p2)] := hl
  unfold fX3_onFrom at hf
  refine lv_iload_n C.1 C.2.1 (dk_at dkX3_onFrom 0 rfl) rfl (lv_at hl 0 rfl) ?_
  refine lv_bipush (v := 8) C.1 C.2.1 (dk_at dkX3_onFrom 1 rfl) (by decide) ?_
  refine lv_idiv C.1 C.2.1 (dk_at dkX3_onFrom 2 rfl) (by decide) ?_
  refine lv_topi (fun x1 ex1 => ?_)
  have hf := nm_at ex1 hf
  refine lv_istore_n (lv' := [(2, .int x1), (0, .int p1), (1, .int p2)]) C.1 C.2.1 (dk_at dkX3_onFrom 3 rfl) rfl hl (by decide) rfl (fun ls hl => ?_)
  refine lv_iload_n C.1 C.2.1 (dk_at dkX3_onFrom 4 rfl) rfl (lv_at hl 1 rfl) ?_
  refine lv_bipush (v := 8) C.1 C.2.1 (dk_at dkX3_onFrom 5 rfl) (by decide) ?_
  refine lv_irem C.1 C.2.1 (dk_at dkX3_onFrom 6 rfl) (by decide) ?_
  refine lv_topi (fun x2 ex2 => ?_)
  have hf := nm_at ex2 hf
  refine lv_istore_n (lv' := [(3, .int x2), (2, .int x1), (0, .int p1), (1, .int p2)]) C.1 C.2.1 (dk_at dkX3_onFrom 7 rfl) rfl hl (by decide) rfl (fun ls hl => ?_)
  refine lv_iload_n C.1 C.2.1 (dk_at dkX3_onFrom 8 rfl) rfl (lv_at hl 3 rfl) ?_
  by_cases c3 : p2 = 0
  · have hf := (if_pos c3).symm.trans hf
    refine lv_tableIn (tgt := 40) C.1 C.2.1 (dk_at dkX3_onFrom 9 rfl) (by rw [c3]; decide) (by rw [c3]; decide) (by rw [c3]; rfl) (by decide) ?_
    refine lv_iload_n C.1 C.2.1 (dk_at dkX3_onFrom 10 rfl) rfl (lv_at hl 0 rfl) ?_
    refine lv_bipush (v := 7) C.1 C.2.1 (dk_at dkX3_onFrom 11 rfl) (by decide) ?_
    refine lv_icmp_ge (tgt := 52) C.1 C.2.1 (dk_at dkX3_onFrom 12 rfl) (by decide) (fun c4 => ?_) (fun c4 => ?_)
    · have hf := (if_pos c4).symm.trans hf
      refine lv_iconst (v := (-1)) C.1 C.2.1 (dk_at dkX3_onFrom 17 rfl) (by decide) ?_
      cases hf
      exact fin _ _ _ (dk_at dkX3_onFrom 18 rfl) rfl
    · have hf := (if_neg c4).symm.trans hf
      refine lv_iload_n C.1 C.2.1 (dk_at dkX3_onFrom 13 rfl) rfl (lv_at hl 2 rfl) ?_
      refine lv_iconst (v := 1) C.1 C.2.1 (dk_at dkX3_onFrom 14 rfl) (by decide) ?_
      refine lv_iadd C.1 C.2.1 (dk_at dkX3_onFrom 15 rfl) ?_
      refine lv_topi (fun x5 ex5 => ?_)
      have hf := nm_at ex5 hf
      refine lv_goto (tgt := 53) C.1 C.2.1 (dk_at dkX3_onFrom 16 rfl) (by decide) ?_
      cases hf
      exact fin _ _ _ (dk_at dkX3_onFrom 18 rfl) rfl
  have hf := (if_neg c3).symm.trans hf
  by_cases c6 : p2 = 1
  · have hf := (if_pos c6).symm.trans hf
    refine lv_tableIn (tgt := 54) C.1 C.2.1 (dk_at dkX3_onFrom 9 rfl) (by rw [c6]; decide) (by rw [c6]; decide) (by rw [c6]; rfl) (by decide) ?_
    refine lv_iload_n C.1 C.2.1 (dk_at dkX3_onFrom 19 rfl) rfl (lv_at hl 1 rfl) ?_
    refine lv_bipush (v := 7) C.1 C.2.1 (dk_at dkX3_onFrom 20 rfl) (by decide) ?_
    refine lv_icmp_ge (tgt := 67) C.1 C.2.1 (dk_at dkX3_onFrom 21 rfl) (by decide) (fun c7 => ?_) (fun c7 => ?_)
    · have hf := (if_pos c7).symm.trans hf
      refine lv_iconst (v := (-1)) C.1 C.2.1 (dk_at dkX3_onFrom 26 rfl) (by decide) ?_
      cases hf
      exact fin _ _ _ (dk_at dkX3_onFrom 27 rfl) rfl
    · have hf := (if_neg c7).symm.trans hf
      refine lv_iload_n C.1 C.2.1 (dk_at dkX3_onFrom 22 rfl) rfl (lv_at hl 2 rfl) ?_
      refine lv_bipush (v := 8) C.1 C.2.1 (dk_at dkX3_onFrom 23 rfl) (by decide) ?_
      refine lv_iadd C.1 C.2.1 (dk_at dkX3_onFrom 24 rfl) ?_
      refine lv_topi (fun x8 ex8 => ?_)
      have hf := nm_at ex8 hf
      refine lv_goto (tgt := 68) C.1 C.2.1 (dk_at dkX3_onFrom 25 rfl) (by decide) ?_
      cases hf
      exact fin _ _ _ (dk_at dkX3_onFrom 27 rfl) rfl
  have hf := (if_neg c6).symm.trans hf
  by_cases c9 : p2 = 2
  · have hf := (if_pos c9).symm.trans hf
    refine lv_tableIn (tgt := 69) C.1 C.2.1 (dk_at dkX3_onFrom 9 rfl) (by rw [c9]; decide) (by rw [c9]; decide) (by rw [c9]; rfl) (by decide) ?_
    refine lv_iload_n C.1 C.2.1 (dk_at dkX3_onFrom 28 rfl) rfl (lv_at hl 0 rfl) ?_
    refine lv_if_le (tgt := 79) C.1 C.2.1 (dk_at dkX3_onFrom 29 rfl) (by decide) (fun c10 => ?_) (fun c10 => ?_)
    · have hf := (if_pos c10).symm.trans hf
      refine lv_iconst (v := (-1)) C.1 C.2.1 (dk_at dkX3_onFrom 34 rfl) (by decide) ?_
      cases hf
      exact fin _ _ _ (dk_at dkX3_onFrom 35 rfl) rfl
    · have hf := (if_neg c10).symm.trans hf
      refine lv_iload_n C.1 C.2.1 (dk_at dkX3_onFrom 30 rfl) rfl (lv_at hl 2 rfl) ?_
      refine lv_iconst (v := 1) C.1 C.2.1 (dk_at dkX3_onFrom 31 rfl) (by decide) ?_
      refine lv_isub C.1 C.2.1 (dk_at dkX3_onFrom 32 rfl) ?_
      refine lv_topi (fun x11 ex11 => ?_)
      have hf := nm_at ex11 hf
      refine lv_goto (tgt := 80) C.1 C.2.1 (dk_at dkX3_onFrom 33 rfl) (by decide) ?_
      cases hf
      exact fin _ _ _ (dk_at dkX3_onFrom 35 rfl) rfl
  have hf := (if_neg c9).symm.trans hf
  by_cases c12 : p2 = 3
  · have hf := (if_pos c12).symm.trans hf
    refine lv_tableIn (tgt := 81) C.1 C.2.1 (dk_at dkX3_onFrom 9 rfl) (by rw [c12]; decide) (by rw [c12]; decide) (by rw [c12]; rfl) (by decide) ?_
    refine lv_iload_n C.1 C.2.1 (dk_at dkX3_onFrom 36 rfl) rfl (lv_at hl 1 rfl) ?_
    refine lv_if_le (tgt := 92) C.1 C.2.1 (dk_at dkX3_onFrom 37 rfl) (by decide) (fun c13 => ?_) (fun c13 => ?_)
    · have hf := (if_pos c13).symm.trans hf
      refine lv_iconst (v := (-1)) C.1 C.2.1 (dk_at dkX3_onFrom 42 rfl) (by decide) ?_
      cases hf
      exact fin _ _ _ (dk_at dkX3_onFrom 43 rfl) rfl
    · have hf := (if_neg c13).symm.trans hf
      refine lv_iload_n C.1 C.2.1 (dk_at dkX3_onFrom 38 rfl) rfl (lv_at hl 2 rfl) ?_
      refine lv_bipush (v := 8) C.1 C.2.1 (dk_at dkX3_onFrom 39 rfl) (by decide) ?_
      refine lv_isub C.1 C.2.1 (dk_at dkX3_onFrom 40 rfl) ?_
      refine lv_topi (fun x14 ex14 => ?_)
      have hf := nm_at ex14 hf
      refine lv_goto (tgt := 93) C.1 C.2.1 (dk_at dkX3_onFrom 41 rfl) (by decide) ?_
      cases hf
      exact fin _ _ _ (dk_at dkX3_onFrom 43 rfl) rfl
  have hf := (if_neg c12).symm.trans hf
  have c3n : p2.toInt ≠ 0 := fun q => c3 (by rw [← Int32.ofInt_toInt p2, q]; rfl)
  have c6n : p2.toInt ≠ 1 := fun q => c6 (by rw [← Int32.ofInt_toInt p2, q]; rfl)
  have c9n : p2.toInt ≠ 2 := fun q => c9 (by rw [← Int32.ofInt_toInt p2, q]; rfl)
  have c12n : p2.toInt ≠ 3 := fun q => c12 (by rw [← Int32.ofInt_toInt p2, q]; rfl)
  refine lv_tableOut (tgt := 94) C.1 C.2.1 (dk_at dkX3_onFrom 9 rfl) (by omega) (by decide) ?_
  refine lv_iconst (v := (-1)) C.1 C.2.1 (dk_at dkX3_onFrom 44 rfl) (by decide) ?_
  cases hf
  exact fin _ _ _ (dk_at dkX3_onFrom 45 rfl) rfl
-- X3.spread
abbrev tbX3_spread : List (Nat × Instr × Nat) := [(0, .lload_n 0, 1), (1, .lload_n 0, 1), (2, .ldc2_w 15, 3), (5, .land, 1), (6, .iconst 1, 1), (7, .lshl, 1), (8, .lor, 1), (9, .lload_n 0, 1), (10, .ldc2_w 17, 3), (13, .land, 1), (14, .iconst 1, 1), (15, .lushr, 1), (16, .lor, 1), (17, .lload_n 0, 1), (18, .bipush 8, 2), (20, .lshl, 1), (21, .lor, 1), (22, .lload_n 0, 1), (23, .bipush 8, 2), (25, .lushr, 1), (26, .lor, 1), (27, .lreturn, 1)]
theorem dkX3_spread : dk cX3_spread tbX3_spread := dk_of (by decide +kernel)
abbrev cdX3_spread : Cond := Cond.code yX3_spread cX3_spread 2 (some .long)
abbrev rmX3_spread : Room := { frames := 0, cells := 0, slots := 0, locals := 0 }
theorem mwX3_spread : Cond.static yX3_spread ∈ wsL_law ∧ Cond.initialized yX3_spread.cls ∈ wsL_law ∧ cdX3_spread ∈ wsL_law := ⟨inr31 _ (List.mem_of_getElem? (i := 17) rfl), inr10 _ (List.mem_of_getElem? (i := 16) rfl), inr31 _ (List.mem_of_getElem? (i := 18) rfl)⟩
theorem hdX3_spread : yX3_spread.cls ≠ "java/lang/invoke/MethodHandle" ∧ yX3_spread.cls ≠ "java/lang/invoke/VarHandle" ∧ (parseMethodDescriptor yX3_spread.desc).map (fun d => d.parameters.length) = some 1 := by decide +kernel
set_option maxHeartbeats 4000000 in
set_option maxRecDepth 100000 in
theorem kX3_spread (l : Launch) (p1 : Int64) (res : Int64) (hf : fX3_spread p1 = some res) : Met l yX3_spread (cdX3_spread :: wsL_law) rmX3_spread (va_Pc [.long p1] (fun _ => True)) (vp_Sl (fun x => x = res)) 0 0 (fun _ => False) := by
  refine Met_stl (cc := cX3_spread) (maxL := 2) (by decide) rfl (Nat.le_of_ble_eq_true rfl) ?_
  intro P E Z Mi AR BE ME CO Q C fin ls hl
  have hl : lv_has ls 2 [(0, .long p1)] := hl
  unfold fX3_spread at hf
  refine lv_lload_n C.1 C.2.1 (dk_at dkX3_spread 0 rfl) rfl (lv_at hl 0 rfl) ?_
  refine lv_lload_n C.1 C.2.1 (dk_at dkX3_spread 1 rfl) rfl (lv_at hl 0 rfl) ?_
  refine lv_ldc2 (v := 9187201950435737471) C.1 C.2.1 C.2.2.2.1 (C.2.2.2.2 _ (List.mem_cons_of_mem _ (inr31 _ (List.mem_of_getElem? (i := 19) rfl)))) (dk_at dkX3_spread 2 rfl) ?_
  refine lv_land C.1 C.2.1 (dk_at dkX3_spread 3 rfl) ?_
  refine lv_topl (fun x1 ex1 => ?_)
  have hf := nm_at ex1 hf
  refine lv_iconst (v := 1) C.1 C.2.1 (dk_at dkX3_spread 4 rfl) (by decide) ?_
  refine lv_lshl C.1 C.2.1 (dk_at dkX3_spread 5 rfl) rfl ?_
  refine lv_lor C.1 C.2.1 (dk_at dkX3_spread 6 rfl) ?_
  refine lv_topl (fun x2 ex2 => ?_)
  have hf := nm_at ex2 hf
  refine lv_lload_n C.1 C.2.1 (dk_at dkX3_spread 7 rfl) rfl (lv_at hl 0 rfl) ?_
  refine lv_ldc2 (v := (-72340172838076674)) C.1 C.2.1 C.2.2.2.1 (C.2.2.2.2 _ (List.mem_cons_of_mem _ (inr31 _ (List.mem_of_getElem? (i := 20) rfl)))) (dk_at dkX3_spread 8 rfl) ?_
  refine lv_land C.1 C.2.1 (dk_at dkX3_spread 9 rfl) ?_
  refine lv_topl (fun x3 ex3 => ?_)
  have hf := nm_at ex3 hf
  refine lv_iconst (v := 1) C.1 C.2.1 (dk_at dkX3_spread 10 rfl) (by decide) ?_
  refine lv_lushr C.1 C.2.1 (dk_at dkX3_spread 11 rfl) rfl ?_
  refine lv_topl (fun x4 ex4 => ?_)
  have hf := nm_at ex4 hf
  refine lv_lor C.1 C.2.1 (dk_at dkX3_spread 12 rfl) ?_
  refine lv_topl (fun x5 ex5 => ?_)
  have hf := nm_at ex5 hf
  refine lv_lload_n C.1 C.2.1 (dk_at dkX3_spread 13 rfl) rfl (lv_at hl 0 rfl) ?_
  refine lv_bipush (v := 8) C.1 C.2.1 (dk_at dkX3_spread 14 rfl) (by decide) ?_
  refine lv_lshl C.1 C.2.1 (dk_at dkX3_spread 15 rfl) rfl ?_
  refine lv_lor C.1 C.2.1 (dk_at dkX3_spread 16 rfl) ?_
  refine lv_topl (fun x6 ex6 => ?_)
  have hf := nm_at ex6 hf
  refine lv_lload_n C.1 C.2.1 (dk_at dkX3_spread 17 rfl) rfl (lv_at hl 0 rfl) ?_
  refine lv_bipush (v := 8) C.1 C.2.1 (dk_at dkX3_spread 18 rfl) (by decide) ?_
  refine lv_lushr C.1 C.2.1 (dk_at dkX3_spread 19 rfl) rfl ?_
  refine lv_topl (fun x7 ex7 => ?_)
  have hf := nm_at ex7 hf
  refine lv_lor C.1 C.2.1 (dk_at dkX3_spread 20 rfl) ?_
  refine lv_topl (fun x8 ex8 => ?_)
  have hf := nm_at ex8 hf
  cases hf
  exact fin _ _ _ (dk_at dkX3_spread 21 rfl) rfl
-- X3.fits
abbrev tbX3_fits : List (Nat × Instr × Nat) := [(0, .iload_n 0, 1), (1, .tableswitch 122 0 5 #[39, 54, 59, 74, 91, 107], 39), (40, .iload_n 1, 1), (41, .ifCond .lt 12, 3), (44, .iload_n 1, 1), (45, .iconst 3, 1), (46, .if_icmp .gt 7, 3), (49, .iconst 1, 1), (50, .goto 4, 3), (53, .iconst 0, 1), (54, .ireturn, 1), (55, .iload_n 1, 1), (56, .invokestatic 9, 3), (59, .ireturn, 1), (60, .iload_n 1, 1), (61, .ifCond .lt 12, 3), (64, .iload_n 1, 1), (65, .iconst 4, 1), (66, .if_icmp .ge 7, 3), (69, .iconst 1, 1), (70, .goto 4, 3), (73, .iconst 0, 1), (74, .ireturn, 1), (75, .iload_n 1, 1), (76, .iconst 1, 1), (77, .if_icmp .lt 13, 3), (80, .iload_n 1, 1), (81, .bipush 9, 2), (83, .if_icmp .gt 7, 3), (86, .iconst 1, 1), (87, .goto 4, 3), (90, .iconst 0, 1), (91, .ireturn, 1), (92, .iload_n 1, 1), (93, .ifCond .lt 13, 3), (96, .iload_n 1, 1), (97, .bipush 10, 2), (99, .if_icmp .ge 7, 3), (102, .iconst 1, 1), (103, .goto 4, 3), (106, .iconst 0, 1), (107, .ireturn, 1), (108, .iload_n 1, 1), (109, .ifCond .lt 12, 3), (112, .iload_n 1, 1), (113, .iconst 4, 1), (114, .if_icmp .gt 7, 3), (117, .iconst 1, 1), (118, .goto 4, 3), (121, .iconst 0, 1), (122, .ireturn, 1), (123, .iconst 0, 1), (124, .ireturn, 1)]
theorem dkX3_fits : dk cX3_fits tbX3_fits := dk_of (by decide +kernel)
abbrev cdX3_fits : Cond := Cond.code yX3_fits cX3_fits 2 (some .boolean)
abbrev rmX3_fits : Room := { frames := 1, cells := 0, slots := 0, locals := 20 }
theorem mwX3_fits : Cond.static yX3_fits ∈ wsL_law ∧ Cond.initialized yX3_fits.cls ∈ wsL_law ∧ cdX3_fits ∈ wsL_law := ⟨inr10 _ (List.mem_of_getElem? (i := 15) rfl), inr10 _ (List.mem_of_getElem? (i := 16) rfl), inr10 _ (List.mem_of_getElem? (i := 17) rfl)⟩
theorem hdX3_fits : yX3_fits.cls ≠ "java/lang/invoke/MethodHandle" ∧ yX3_fits.cls ≠ "java/lang/invoke/VarHandle" ∧ (parseMethodDescriptor yX3_fits.desc).map (fun d => d.parameters.length) = some 2 := by decide +kernel
set_option maxHeartbeats 4000000 in
set_option maxRecDepth 100000 in
theorem kX3_fits (l : Launch) (p1 : Int32) (p2 : Int32) (res : Int32) (hf : fX3_fits p1 p2 = some res) : Met l yX3_fits (cdX3_fits :: wsL_law) rmX3_fits (va_Pc [.int p1, .int p2] (fun _ => True)) (vp_Si (fun x => x = res)) 0 0 (fun _ => False) := by
  refine Met_stz (cc := cX3_fits) (maxL := 2) (by decide) rfl (Nat.le_of_ble_eq_true rfl) ?_
  intro P E Z Mi AR BE ME CO Q C fin ls hl
  have hl : lv_has ls 2 [(0, .int p1), (1, .int p2)] := hl
  unfold fX3_fits at hf
  refine lv_iload_n C.1 C.2.1 (dk_at dkX3_fits 0 rfl) rfl (lv_at hl 0 rfl) ?_
  by_cases c1 : p1 = 0
  · have hf := (if_pos c1).symm.trans hf
    refine lv_tableIn (tgt := 40) C.1 C.2.1 (dk_at dkX3_fits 1 rfl) (by rw [c1]; decide) (by rw [c1]; decide) (by rw [c1]; rfl) (by decide) ?_
    refine lv_iload_n C.1 C.2.1 (dk_at dkX3_fits 2 rfl) rfl (lv_at hl 1 rfl) ?_
    refine lv_if_lt (tgt := 53) C.1 C.2.1 (dk_at dkX3_fits 3 rfl) (by decide) (fun c2 => ?_) (fun c2 => ?_)
    · have hf := (if_pos c2).symm.trans hf
      refine lv_iconst (v := 0) C.1 C.2.1 (dk_at dkX3_fits 9 rfl) (by decide) ?_
      cases hf
      exact fin _ _ _ (dk_at dkX3_fits 10 rfl) rfl rfl
    · have hf := (if_neg c2).symm.trans hf
      refine lv_iload_n C.1 C.2.1 (dk_at dkX3_fits 4 rfl) rfl (lv_at hl 1 rfl) ?_
      refine lv_iconst (v := 3) C.1 C.2.1 (dk_at dkX3_fits 5 rfl) (by decide) ?_
      refine lv_icmp_gt (tgt := 53) C.1 C.2.1 (dk_at dkX3_fits 6 rfl) (by decide) (fun c3 => ?_) (fun c3 => ?_)
      · have hf := (if_pos c3).symm.trans hf
        refine lv_iconst (v := 0) C.1 C.2.1 (dk_at dkX3_fits 9 rfl) (by decide) ?_
        cases hf
        exact fin _ _ _ (dk_at dkX3_fits 10 rfl) rfl rfl
      · have hf := (if_neg c3).symm.trans hf
        refine lv_iconst (v := 1) C.1 C.2.1 (dk_at dkX3_fits 7 rfl) (by decide) ?_
        refine lv_goto (tgt := 54) C.1 C.2.1 (dk_at dkX3_fits 8 rfl) (by decide) ?_
        cases hf
        exact fin _ _ _ (dk_at dkX3_fits 10 rfl) rfl rfl
  have hf := (if_neg c1).symm.trans hf
  by_cases c4 : p1 = 1
  · have hf := (if_pos c4).symm.trans hf
    refine lv_tableIn (tgt := 55) C.1 C.2.1 (dk_at dkX3_fits 1 rfl) (by rw [c4]; decide) (by rw [c4]; decide) (by rw [c4]; rfl) (by decide) ?_
    refine lv_iload_n C.1 C.2.1 (dk_at dkX3_fits 11 rfl) rfl (lv_at hl 1 rfl) ?_
    obtain ⟨r5, hq6, hf⟩ := bd1_at hf
    refine r_st (As := [.int p2]) (rest := []) C (kX3_isCell l p2 r5 hq6) (cwS0 C (inr10 _ (List.mem_of_getElem? (i := 18) rfl)) mwX3_isCell hdX3_isCell ⟨Nat.le_of_ble_eq_true rfl, Nat.le_of_ble_eq_true rfl⟩) rfl hl.1 rfl (Nat.le_of_ble_eq_true rfl) ⟨Nat.zero_le _, Nat.zero_le _⟩ (dk_at dkX3_fits 12 rfl) ?_
    obtain ⟨h7, hf⟩ := gb_at hf
    cases hf
    exact fin _ _ _ (dk_at dkX3_fits 13 rfl) h7 rfl
  have hf := (if_neg c4).symm.trans hf
  by_cases c8 : p1 = 2
  · have hf := (if_pos c8).symm.trans hf
    refine lv_tableIn (tgt := 60) C.1 C.2.1 (dk_at dkX3_fits 1 rfl) (by rw [c8]; decide) (by rw [c8]; decide) (by rw [c8]; rfl) (by decide) ?_
    refine lv_iload_n C.1 C.2.1 (dk_at dkX3_fits 14 rfl) rfl (lv_at hl 1 rfl) ?_
    refine lv_if_lt (tgt := 73) C.1 C.2.1 (dk_at dkX3_fits 15 rfl) (by decide) (fun c9 => ?_) (fun c9 => ?_)
    · have hf := (if_pos c9).symm.trans hf
      refine lv_iconst (v := 0) C.1 C.2.1 (dk_at dkX3_fits 21 rfl) (by decide) ?_
      cases hf
      exact fin _ _ _ (dk_at dkX3_fits 22 rfl) rfl rfl
    · have hf := (if_neg c9).symm.trans hf
      refine lv_iload_n C.1 C.2.1 (dk_at dkX3_fits 16 rfl) rfl (lv_at hl 1 rfl) ?_
      refine lv_iconst (v := 4) C.1 C.2.1 (dk_at dkX3_fits 17 rfl) (by decide) ?_
      refine lv_icmp_ge (tgt := 73) C.1 C.2.1 (dk_at dkX3_fits 18 rfl) (by decide) (fun c10 => ?_) (fun c10 => ?_)
      · have hf := (if_pos c10).symm.trans hf
        refine lv_iconst (v := 0) C.1 C.2.1 (dk_at dkX3_fits 21 rfl) (by decide) ?_
        cases hf
        exact fin _ _ _ (dk_at dkX3_fits 22 rfl) rfl rfl
      · have hf := (if_neg c10).symm.trans hf
        refine lv_iconst (v := 1) C.1 C.2.1 (dk_at dkX3_fits 19 rfl) (by decide) ?_
        refine lv_goto (tgt := 74) C.1 C.2.1 (dk_at dkX3_fits 20 rfl) (by decide) ?_
        cases hf
        exact fin _ _ _ (dk_at dkX3_fits 22 rfl) rfl rfl
  have hf := (if_neg c8).symm.trans hf
  by_cases c11 : p1 = 3
  · have hf := (if_pos c11).symm.trans hf
    refine lv_tableIn (tgt := 75) C.1 C.2.1 (dk_at dkX3_fits 1 rfl) (by rw [c11]; decide) (by rw [c11]; decide) (by rw [c11]; rfl) (by decide) ?_
    refine lv_iload_n C.1 C.2.1 (dk_at dkX3_fits 23 rfl) rfl (lv_at hl 1 rfl) ?_
    refine lv_iconst (v := 1) C.1 C.2.1 (dk_at dkX3_fits 24 rfl) (by decide) ?_
    refine lv_icmp_lt (tgt := 90) C.1 C.2.1 (dk_at dkX3_fits 25 rfl) (by decide) (fun c12 => ?_) (fun c12 => ?_)
    · have hf := (if_pos c12).symm.trans hf
      refine lv_iconst (v := 0) C.1 C.2.1 (dk_at dkX3_fits 31 rfl) (by decide) ?_
      cases hf
      exact fin _ _ _ (dk_at dkX3_fits 32 rfl) rfl rfl
    · have hf := (if_neg c12).symm.trans hf
      refine lv_iload_n C.1 C.2.1 (dk_at dkX3_fits 26 rfl) rfl (lv_at hl 1 rfl) ?_
      refine lv_bipush (v := 9) C.1 C.2.1 (dk_at dkX3_fits 27 rfl) (by decide) ?_
      refine lv_icmp_gt (tgt := 90) C.1 C.2.1 (dk_at dkX3_fits 28 rfl) (by decide) (fun c13 => ?_) (fun c13 => ?_)
      · have hf := (if_pos c13).symm.trans hf
        refine lv_iconst (v := 0) C.1 C.2.1 (dk_at dkX3_fits 31 rfl) (by decide) ?_
        cases hf
        exact fin _ _ _ (dk_at dkX3_fits 32 rfl) rfl rfl
      · have hf := (if_neg c13).symm.trans hf
        refine lv_iconst (v := 1) C.1 C.2.1 (dk_at dkX3_fits 29 rfl) (by decide) ?_
        refine lv_goto (tgt := 91) C.1 C.2.1 (dk_at dkX3_fits 30 rfl) (by decide) ?_
        cases hf
        exact fin _ _ _ (dk_at dkX3_fits 32 rfl) rfl rfl
  have hf := (if_neg c11).symm.trans hf
  by_cases c14 : p1 = 4
  · have hf := (if_pos c14).symm.trans hf
    refine lv_tableIn (tgt := 92) C.1 C.2.1 (dk_at dkX3_fits 1 rfl) (by rw [c14]; decide) (by rw [c14]; decide) (by rw [c14]; rfl) (by decide) ?_
    refine lv_iload_n C.1 C.2.1 (dk_at dkX3_fits 33 rfl) rfl (lv_at hl 1 rfl) ?_
    refine lv_if_lt (tgt := 106) C.1 C.2.1 (dk_at dkX3_fits 34 rfl) (by decide) (fun c15 => ?_) (fun c15 => ?_)
    · have hf := (if_pos c15).symm.trans hf
      refine lv_iconst (v := 0) C.1 C.2.1 (dk_at dkX3_fits 40 rfl) (by decide) ?_
      cases hf
      exact fin _ _ _ (dk_at dkX3_fits 41 rfl) rfl rfl
    · have hf := (if_neg c15).symm.trans hf
      refine lv_iload_n C.1 C.2.1 (dk_at dkX3_fits 35 rfl) rfl (lv_at hl 1 rfl) ?_
      refine lv_bipush (v := 10) C.1 C.2.1 (dk_at dkX3_fits 36 rfl) (by decide) ?_
      refine lv_icmp_ge (tgt := 106) C.1 C.2.1 (dk_at dkX3_fits 37 rfl) (by decide) (fun c16 => ?_) (fun c16 => ?_)
      · have hf := (if_pos c16).symm.trans hf
        refine lv_iconst (v := 0) C.1 C.2.1 (dk_at dkX3_fits 40 rfl) (by decide) ?_
        cases hf
        exact fin _ _ _ (dk_at dkX3_fits 41 rfl) rfl rfl
      · have hf := (if_neg c16).symm.trans hf
        refine lv_iconst (v := 1) C.1 C.2.1 (dk_at dkX3_fits 38 rfl) (by decide) ?_
        refine lv_goto (tgt := 107) C.1 C.2.1 (dk_at dkX3_fits 39 rfl) (by decide) ?_
        cases hf
        exact fin _ _ _ (dk_at dkX3_fits 41 rfl) rfl rfl
  have hf := (if_neg c14).symm.trans hf
  by_cases c17 : p1 = 5
  · have hf := (if_pos c17).symm.trans hf
    refine lv_tableIn (tgt := 108) C.1 C.2.1 (dk_at dkX3_fits 1 rfl) (by rw [c17]; decide) (by rw [c17]; decide) (by rw [c17]; rfl) (by decide) ?_
    refine lv_iload_n C.1 C.2.1 (dk_at dkX3_fits 42 rfl) rfl (lv_at hl 1 rfl) ?_
    refine lv_if_lt (tgt := 121) C.1 C.2.1 (dk_at dkX3_fits 43 rfl) (by decide) (fun c18 => ?_) (fun c18 => ?_)
    · have hf := (if_pos c18).symm.trans hf
      refine lv_iconst (v := 0) C.1 C.2.1 (dk_at dkX3_fits 49 rfl) (by decide) ?_
      cases hf
      exact fin _ _ _ (dk_at dkX3_fits 50 rfl) rfl rfl
    · have hf := (if_neg c18).symm.trans hf
      refine lv_iload_n C.1 C.2.1 (dk_at dkX3_fits 44 rfl) rfl (lv_at hl 1 rfl) ?_
      refine lv_iconst (v := 4) C.1 C.2.1 (dk_at dkX3_fits 45 rfl) (by decide) ?_
      refine lv_icmp_gt (tgt := 121) C.1 C.2.1 (dk_at dkX3_fits 46 rfl) (by decide) (fun c19 => ?_) (fun c19 => ?_)
      · have hf := (if_pos c19).symm.trans hf
        refine lv_iconst (v := 0) C.1 C.2.1 (dk_at dkX3_fits 49 rfl) (by decide) ?_
        cases hf
        exact fin _ _ _ (dk_at dkX3_fits 50 rfl) rfl rfl
      · have hf := (if_neg c19).symm.trans hf
        refine lv_iconst (v := 1) C.1 C.2.1 (dk_at dkX3_fits 47 rfl) (by decide) ?_
        refine lv_goto (tgt := 122) C.1 C.2.1 (dk_at dkX3_fits 48 rfl) (by decide) ?_
        cases hf
        exact fin _ _ _ (dk_at dkX3_fits 50 rfl) rfl rfl
  have hf := (if_neg c17).symm.trans hf
  have c1n : p1.toInt ≠ 0 := fun q => c1 (by rw [← Int32.ofInt_toInt p1, q]; rfl)
  have c4n : p1.toInt ≠ 1 := fun q => c4 (by rw [← Int32.ofInt_toInt p1, q]; rfl)
  have c8n : p1.toInt ≠ 2 := fun q => c8 (by rw [← Int32.ofInt_toInt p1, q]; rfl)
  have c11n : p1.toInt ≠ 3 := fun q => c11 (by rw [← Int32.ofInt_toInt p1, q]; rfl)
  have c14n : p1.toInt ≠ 4 := fun q => c14 (by rw [← Int32.ofInt_toInt p1, q]; rfl)
  have c17n : p1.toInt ≠ 5 := fun q => c17 (by rw [← Int32.ofInt_toInt p1, q]; rfl)
  refine lv_tableOut (tgt := 123) C.1 C.2.1 (dk_at dkX3_fits 1 rfl) (by omega) (by decide) ?_
  refine lv_iconst (v := 0) C.1 C.2.1 (dk_at dkX3_fits 51 rfl) (by decide) ?_
  cases hf
  exact fin _ _ _ (dk_at dkX3_fits 52 rfl) rfl rfl
-- X3.lowest
abbrev tbX3_lowest : List (Nat × Instr × Nat) := [(0, .lload_n 2, 1), (1, .lstore 5, 2), (3, .lload_n 0, 1), (4, .lstore 7, 2), (6, .iconst 0, 1), (7, .istore 9, 2), (9, .iload 9, 2), (11, .bipush 100, 2), (13, .if_icmp .ge 31, 3), (16, .lload 7, 2), (18, .lconst 0, 1), (19, .lcmp, 1), (20, .ifCond .eq 24, 3), (23, .lload 5, 2), (25, .lload 7, 2), (27, .lrem, 1), (28, .lstore 10, 2), (30, .lload 7, 2), (32, .lstore 5, 2), (34, .lload 10, 2), (36, .lstore 7, 2), (38, .iinc 9 1, 3), (41, .goto (-32), 3), (44, .iload 4, 2), (46, .ifCond .ne 7, 3), (49, .lload_n 0, 1), (50, .goto 4, 3), (53, .lload_n 2, 1), (54, .lstore 9, 2), (56, .lload 5, 2), (58, .lconst 0, 1), (59, .lcmp, 1), (60, .ifCond .ne 8, 3), (63, .lload 9, 2), (65, .goto 8, 3), (68, .lload 9, 2), (70, .lload 5, 2), (72, .ldiv, 1), (73, .lreturn, 1)]
theorem dkX3_lowest : dk cX3_lowest tbX3_lowest := dk_of (by decide +kernel)
abbrev cdX3_lowest : Cond := Cond.code yX3_lowest cX3_lowest 12 (some .long)
abbrev rmX3_lowest : Room := { frames := 0, cells := 0, slots := 0, locals := 0 }
theorem mwX3_lowest : Cond.static yX3_lowest ∈ wsL_law ∧ Cond.initialized yX3_lowest.cls ∈ wsL_law ∧ cdX3_lowest ∈ wsL_law := ⟨inr33 _ (List.mem_of_getElem? (i := 21) rfl), inr10 _ (List.mem_of_getElem? (i := 16) rfl), inr33 _ (List.mem_of_getElem? (i := 22) rfl)⟩
theorem hdX3_lowest : yX3_lowest.cls ≠ "java/lang/invoke/MethodHandle" ∧ yX3_lowest.cls ≠ "java/lang/invoke/VarHandle" ∧ (parseMethodDescriptor yX3_lowest.desc).map (fun d => d.parameters.length) = some 3 := by decide +kernel
set_option maxHeartbeats 4000000 in
set_option maxRecDepth 100000 in
theorem kX3_lowest (l : Launch) (p1 : Int64) (p2 : Int64) (p3 : Int32) (res : Int64) (hf : fX3_lowest p1 p2 p3 = some res) : Met l yX3_lowest (cdX3_lowest :: wsL_law) rmX3_lowest (va_Pc [.long p1, .long p2, .int p3] (fun _ => True)) (vp_Sl (fun x => x = res)) 0 0 (fun _ => False) := by
  refine Met_stl (cc := cX3_lowest) (maxL := 12) (by decide) rfl (Nat.le_of_ble_eq_true rfl) ?_
  intro P E Z Mi AR BE ME CO Q C fin ls hl
  have hl : lv_has ls 12 [(0, .long p1), (2, .long p2), (4, .int p3)] := hl
  unfold fX3_lowest at hf
  refine lv_lload_n C.1 C.2.1 (dk_at dkX3_lowest 0 rfl) rfl (lv_at hl 1 rfl) ?_
  refine lv_lstore (lv' := [(5, .long p2), (0, .long p1), (2, .long p2), (4, .int p3)]) C.1 C.2.1 (dk_at dkX3_lowest 1 rfl) hl (by decide) rfl (fun ls hl => ?_)
  refine lv_lload_n C.1 C.2.1 (dk_at dkX3_lowest 2 rfl) rfl (lv_at hl 1 rfl) ?_
  refine lv_lstore (lv' := [(7, .long p1), (5, .long p2), (0, .long p1), (2, .long p2), (4, .int p3)]) C.1 C.2.1 (dk_at dkX3_lowest 3 rfl) hl (by decide) rfl (fun ls hl => ?_)
  refine lv_iconst (v := 0) C.1 C.2.1 (dk_at dkX3_lowest 4 rfl) (by decide) ?_
  refine lv_istore (lv' := [(9, .int 0), (7, .long p1), (5, .long p2), (0, .long p1), (2, .long p2), (4, .int p3)]) C.1 C.2.1 (dk_at dkX3_lowest 5 rfl) hl (by decide) rfl (fun ls hl => ?_)
  have L4 : ∀ (K : Int32 → Int64 → Int64 → Option (Int64)), (∀ (v1 : Int32) (v2 : Int64) (v3 : Int64) (ls : Array Slot), lv_has ls 12 [(5, .long v3), (0, .long p1), (2, .long p2), (4, .int p3)] → K v1 v2 v3 = some res → W P l E rmX3_lowest Z Mi AR BE ME CO Z.heap [] 0 0 Q (F0 Mi 44 ls [])) → ∀ (n : Nat), ∀ (v1 : Int32) (v2 : Int64) (v3 : Int64) (ls : Array Slot), lv_has ls 12 [(9, .int v1), (7, .long v2), (5, .long v3), (0, .long p1), (2, .long p2), (4, .int p3)] → fX3_lowest_L9 K n v1 v2 v3 = some res → W P l E rmX3_lowest Z Mi AR BE ME CO Z.heap [] 0 0 Q (F0 Mi 9 ls []) := by
    intro K hKe n
    induction n with
    | zero => intro v1 v2 v3 ls hl hf; cases hf
    | succ n ih =>
      intro v1 v2 v3 ls hl hf
      rw [fX3_lowest_L9] at hf
      refine lv_iload C.1 C.2.1 (dk_at dkX3_lowest 6 rfl) (lv_at hl 0 rfl) ?_
      refine lv_bipush (v := 100) C.1 C.2.1 (dk_at dkX3_lowest 7 rfl) (by decide) ?_
      refine lv_icmp_ge (tgt := 44) C.1 C.2.1 (dk_at dkX3_lowest 8 rfl) (by decide) (fun c5 => ?_) (fun c5 => ?_)
      · have hf := (if_pos c5).symm.trans hf
        exact hKe v1 v2 v3 _ (lv_sub hl [2, 3, 4, 5] rfl) hf
      · have hf := (if_neg c5).symm.trans hf
        refine lv_lload C.1 C.2.1 (dk_at dkX3_lowest 9 rfl) (lv_at hl 1 rfl) ?_
        refine lv_lconst (v := 0) C.1 C.2.1 (dk_at dkX3_lowest 10 rfl) (by decide) ?_
        refine W.lcmp C.1 C.2.1 (dk_at dkX3_lowest 11 rfl) ?_
        refine lv_if_eq (tgt := 44) C.1 C.2.1 (dk_at dkX3_lowest 12 rfl) (by decide) (fun c6 => ?_) (fun c6 => ?_)
        · have hf := (if_pos c6).symm.trans hf
          exact hKe v1 v2 v3 _ (lv_sub hl [2, 3, 4, 5] rfl) hf
        · have hf := (if_neg c6).symm.trans hf
          refine lv_lload C.1 C.2.1 (dk_at dkX3_lowest 13 rfl) (lv_at hl 2 rfl) ?_
          refine lv_lload C.1 C.2.1 (dk_at dkX3_lowest 14 rfl) (lv_at hl 1 rfl) ?_
          obtain ⟨h7, hf⟩ := gzl_at hf
          refine lv_lrem C.1 C.2.1 (dk_at dkX3_lowest 15 rfl) h7 ?_
          refine lv_topl (fun x8 ex8 => ?_)
          have hf := nm_at ex8 hf
          refine lv_lstore (lv' := [(10, .long x8), (9, .int v1), (7, .long v2), (5, .long v3), (0, .long p1), (2, .long p2), (4, .int p3)]) C.1 C.2.1 (dk_at dkX3_lowest 16 rfl) hl (by decide) rfl (fun ls hl => ?_)
          refine lv_lload C.1 C.2.1 (dk_at dkX3_lowest 17 rfl) (lv_at hl 2 rfl) ?_
          refine lv_lstore (lv' := [(5, .long v2), (10, .long x8), (9, .int v1), (7, .long v2), (0, .long p1), (2, .long p2), (4, .int p3)]) C.1 C.2.1 (dk_at dkX3_lowest 18 rfl) hl (by decide) rfl (fun ls hl => ?_)
          refine lv_lload C.1 C.2.1 (dk_at dkX3_lowest 19 rfl) (lv_at hl 1 rfl) ?_
          refine lv_lstore (lv' := [(7, .long x8), (5, .long v2), (10, .long x8), (9, .int v1), (0, .long p1), (2, .long p2), (4, .int p3)]) C.1 C.2.1 (dk_at dkX3_lowest 20 rfl) hl (by decide) rfl (fun ls hl => ?_)
          obtain ⟨x9, ex9⟩ : ∃ z : Int32, z = v1 + 1 := ⟨_, rfl⟩
          have hf := nm_at ex9 hf
          refine lv_iinc (v := x9) (lv' := [(9, .int x9), (7, .long x8), (5, .long v2), (10, .long x8), (0, .long p1), (2, .long p2), (4, .int p3)]) C.1 C.2.1 (dk_at dkX3_lowest 21 rfl) hl (k := 3) rfl (by rw [ex9]; rfl) (by decide) rfl (fun ls hl => ?_)
          refine lv_goto (tgt := 9) C.1 C.2.1 (dk_at dkX3_lowest 22 rfl) (by decide) ?_
          exact ih x9 x8 v2 _ (lv_sub hl [0, 1, 2, 4, 5, 6] rfl) hf
  refine L4 _ ?_ 4096 0 p1 p2 _ (lv_sub hl [0, 1, 2, 3, 4, 5] rfl) hf
  clear hf
  intro v1 v2 v3 ls hl hf
  refine lv_iload C.1 C.2.1 (dk_at dkX3_lowest 23 rfl) (lv_at hl 3 rfl) ?_
  obtain ⟨y10, hq11, hf⟩ := bd1_at hf
  have J12 : ∀ (ls : Array Slot), lv_has ls 12 [(5, .long v3)] → W P l E rmX3_lowest Z Mi AR BE ME CO Z.heap [] 0 0 Q (F0 Mi 54 ls [.long y10]) := by
    intro ls hl
    refine lv_lstore (lv' := [(9, .long y10), (5, .long v3)]) C.1 C.2.1 (dk_at dkX3_lowest 28 rfl) hl (by decide) rfl (fun ls hl => ?_)
    refine lv_lload C.1 C.2.1 (dk_at dkX3_lowest 29 rfl) (lv_at hl 1 rfl) ?_
    refine lv_lconst (v := 0) C.1 C.2.1 (dk_at dkX3_lowest 30 rfl) (by decide) ?_
    refine W.lcmp C.1 C.2.1 (dk_at dkX3_lowest 31 rfl) ?_
    refine lv_if_ne (tgt := 68) C.1 C.2.1 (dk_at dkX3_lowest 32 rfl) (by decide) (fun c13 => ?_) (fun c13 => ?_)
    · have hf := (if_neg c13).symm.trans hf
      refine lv_lload C.1 C.2.1 (dk_at dkX3_lowest 35 rfl) (lv_at hl 0 rfl) ?_
      refine lv_lload C.1 C.2.1 (dk_at dkX3_lowest 36 rfl) (lv_at hl 1 rfl) ?_
      obtain ⟨h14, hf⟩ := gzl_at hf
      refine lv_ldiv C.1 C.2.1 (dk_at dkX3_lowest 37 rfl) h14 ?_
      refine lv_topl (fun x15 ex15 => ?_)
      have hf := nm_at ex15 hf
      cases hf
      exact fin _ _ _ (dk_at dkX3_lowest 38 rfl) rfl
    · have hf := (if_pos c13).symm.trans hf
      refine lv_lload C.1 C.2.1 (dk_at dkX3_lowest 33 rfl) (lv_at hl 0 rfl) ?_
      refine lv_goto (tgt := 73) C.1 C.2.1 (dk_at dkX3_lowest 34 rfl) (by decide) ?_
      cases hf
      exact fin _ _ _ (dk_at dkX3_lowest 38 rfl) rfl
  clear hf
  have hf := hq11
  refine lv_if_ne (tgt := 53) C.1 C.2.1 (dk_at dkX3_lowest 24 rfl) (by decide) (fun c16 => ?_) (fun c16 => ?_)
  · have hf := (if_neg c16).symm.trans hf
    refine lv_lload_n C.1 C.2.1 (dk_at dkX3_lowest 27 rfl) rfl (lv_at hl 2 rfl) ?_
    cases hf
    exact J12 _ (lv_sub hl [0] rfl)
  · have hf := (if_pos c16).symm.trans hf
    refine lv_lload_n C.1 C.2.1 (dk_at dkX3_lowest 25 rfl) rfl (lv_at hl 1 rfl) ?_
    refine lv_goto (tgt := 54) C.1 C.2.1 (dk_at dkX3_lowest 26 rfl) (by decide) ?_
    cases hf
    exact J12 _ (lv_sub hl [0] rfl)
-- J13.bitCount_95d88
abbrev tbJ13_bitCount_95d88 : List (Nat × Instr × Nat) := [(0, .lload_n 0, 1), (1, .lload_n 0, 1), (2, .iconst 1, 1), (3, .lushr, 1), (4, .ldc2_w 314, 3), (7, .land, 1), (8, .lsub, 1), (9, .lstore_n 0, 1), (10, .lload_n 0, 1), (11, .ldc2_w 316, 3), (14, .land, 1), (15, .lload_n 0, 1), (16, .iconst 2, 1), (17, .lushr, 1), (18, .ldc2_w 316, 3), (21, .land, 1), (22, .ladd, 1), (23, .lstore_n 0, 1), (24, .lload_n 0, 1), (25, .lload_n 0, 1), (26, .iconst 4, 1), (27, .lushr, 1), (28, .ladd, 1), (29, .ldc2_w 318, 3), (32, .land, 1), (33, .lstore_n 0, 1), (34, .lload_n 0, 1), (35, .lload_n 0, 1), (36, .bipush 8, 2), (38, .lushr, 1), (39, .ladd, 1), (40, .lstore_n 0, 1), (41, .lload_n 0, 1), (42, .lload_n 0, 1), (43, .bipush 16, 2), (45, .lushr, 1), (46, .ladd, 1), (47, .lstore_n 0, 1), (48, .lload_n 0, 1), (49, .lload_n 0, 1), (50, .bipush 32, 2), (52, .lushr, 1), (53, .ladd, 1), (54, .lstore_n 0, 1), (55, .lload_n 0, 1), (56, .l2i, 1), (57, .bipush 127, 2), (59, .iand, 1), (60, .ireturn, 1)]
theorem dkJ13_bitCount_95d88 : dk cJ13_bitCount_95d88 tbJ13_bitCount_95d88 := dk_of (by decide +kernel)
abbrev cdJ13_bitCount_95d88 : Cond := Cond.code yJ13_bitCount_95d88 cJ13_bitCount_95d88 2 (some .int)
abbrev rmJ13_bitCount_95d88 : Room := { frames := 0, cells := 0, slots := 0, locals := 0 }
theorem mwJ13_bitCount_95d88 : Cond.static yJ13_bitCount_95d88 ∈ wsL_law ∧ Cond.initialized yJ13_bitCount_95d88.cls ∈ wsL_law ∧ cdJ13_bitCount_95d88 ∈ wsL_law := ⟨inr11 _ (List.mem_of_getElem? (i := 7) rfl), inr11 _ (List.mem_of_getElem? (i := 8) rfl), inr11 _ (List.mem_of_getElem? (i := 9) rfl)⟩
theorem hdJ13_bitCount_95d88 : yJ13_bitCount_95d88.cls ≠ "java/lang/invoke/MethodHandle" ∧ yJ13_bitCount_95d88.cls ≠ "java/lang/invoke/VarHandle" ∧ (parseMethodDescriptor yJ13_bitCount_95d88.desc).map (fun d => d.parameters.length) = some 1 := by decide +kernel
set_option maxHeartbeats 4000000 in
set_option maxRecDepth 100000 in
theorem kJ13_bitCount_95d88 (l : Launch) (p1 : Int64) (res : Int32) (hf : fJ13_bitCount_95d88 p1 = some res) : Met l yJ13_bitCount_95d88 (cdJ13_bitCount_95d88 :: wsL_law) rmJ13_bitCount_95d88 (va_Pc [.long p1] (fun _ => True)) (vp_Si (fun x => x = res)) 0 0 (fun _ => False) := by
  refine Met_sti (cc := cJ13_bitCount_95d88) (maxL := 2) (by decide) rfl (Nat.le_of_ble_eq_true rfl) ?_
  intro P E Z Mi AR BE ME CO Q C fin ls hl
  have hl : lv_has ls 2 [(0, .long p1)] := hl
  unfold fJ13_bitCount_95d88 at hf
  refine lv_lload_n C.1 C.2.1 (dk_at dkJ13_bitCount_95d88 0 rfl) rfl (lv_at hl 0 rfl) ?_
  refine lv_lload_n C.1 C.2.1 (dk_at dkJ13_bitCount_95d88 1 rfl) rfl (lv_at hl 0 rfl) ?_
  refine lv_iconst (v := 1) C.1 C.2.1 (dk_at dkJ13_bitCount_95d88 2 rfl) (by decide) ?_
  refine lv_lushr C.1 C.2.1 (dk_at dkJ13_bitCount_95d88 3 rfl) rfl ?_
  refine lv_topl (fun x1 ex1 => ?_)
  have hf := nm_at ex1 hf
  refine lv_ldc2 (v := 6148914691236517205) C.1 C.2.1 C.2.2.2.1 (C.2.2.2.2 _ (List.mem_cons_of_mem _ (inr11 _ (List.mem_of_getElem? (i := 10) rfl)))) (dk_at dkJ13_bitCount_95d88 4 rfl) ?_
  refine lv_land C.1 C.2.1 (dk_at dkJ13_bitCount_95d88 5 rfl) ?_
  refine lv_lsub C.1 C.2.1 (dk_at dkJ13_bitCount_95d88 6 rfl) ?_
  refine lv_topl (fun x2 ex2 => ?_)
  have hf := nm_at ex2 hf
  refine lv_lstore_n (lv' := [(0, .long x2)]) C.1 C.2.1 (dk_at dkJ13_bitCount_95d88 7 rfl) rfl hl (by decide) rfl (fun ls hl => ?_)
  refine lv_lload_n C.1 C.2.1 (dk_at dkJ13_bitCount_95d88 8 rfl) rfl (lv_at hl 0 rfl) ?_
  refine lv_ldc2 (v := 3689348814741910323) C.1 C.2.1 C.2.2.2.1 (C.2.2.2.2 _ (List.mem_cons_of_mem _ (inr11 _ (List.mem_of_getElem? (i := 11) rfl)))) (dk_at dkJ13_bitCount_95d88 9 rfl) ?_
  refine lv_land C.1 C.2.1 (dk_at dkJ13_bitCount_95d88 10 rfl) ?_
  refine lv_topl (fun x3 ex3 => ?_)
  have hf := nm_at ex3 hf
  refine lv_lload_n C.1 C.2.1 (dk_at dkJ13_bitCount_95d88 11 rfl) rfl (lv_at hl 0 rfl) ?_
  refine lv_iconst (v := 2) C.1 C.2.1 (dk_at dkJ13_bitCount_95d88 12 rfl) (by decide) ?_
  refine lv_lushr C.1 C.2.1 (dk_at dkJ13_bitCount_95d88 13 rfl) rfl ?_
  refine lv_topl (fun x4 ex4 => ?_)
  have hf := nm_at ex4 hf
  refine lv_ldc2 (v := 3689348814741910323) C.1 C.2.1 C.2.2.2.1 (C.2.2.2.2 _ (List.mem_cons_of_mem _ (inr11 _ (List.mem_of_getElem? (i := 11) rfl)))) (dk_at dkJ13_bitCount_95d88 14 rfl) ?_
  refine lv_land C.1 C.2.1 (dk_at dkJ13_bitCount_95d88 15 rfl) ?_
  refine lv_ladd C.1 C.2.1 (dk_at dkJ13_bitCount_95d88 16 rfl) ?_
  refine lv_topl (fun x5 ex5 => ?_)
  have hf := nm_at ex5 hf
  refine lv_lstore_n (lv' := [(0, .long x5)]) C.1 C.2.1 (dk_at dkJ13_bitCount_95d88 17 rfl) rfl hl (by decide) rfl (fun ls hl => ?_)
  refine lv_lload_n C.1 C.2.1 (dk_at dkJ13_bitCount_95d88 18 rfl) rfl (lv_at hl 0 rfl) ?_
  refine lv_lload_n C.1 C.2.1 (dk_at dkJ13_bitCount_95d88 19 rfl) rfl (lv_at hl 0 rfl) ?_
  refine lv_iconst (v := 4) C.1 C.2.1 (dk_at dkJ13_bitCount_95d88 20 rfl) (by decide) ?_
  refine lv_lushr C.1 C.2.1 (dk_at dkJ13_bitCount_95d88 21 rfl) rfl ?_
  refine lv_topl (fun x6 ex6 => ?_)
  have hf := nm_at ex6 hf
  refine lv_ladd C.1 C.2.1 (dk_at dkJ13_bitCount_95d88 22 rfl) ?_
  refine lv_topl (fun x7 ex7 => ?_)
  have hf := nm_at ex7 hf
  refine lv_ldc2 (v := 1085102592571150095) C.1 C.2.1 C.2.2.2.1 (C.2.2.2.2 _ (List.mem_cons_of_mem _ (inr11 _ (List.mem_of_getElem? (i := 12) rfl)))) (dk_at dkJ13_bitCount_95d88 23 rfl) ?_
  refine lv_land C.1 C.2.1 (dk_at dkJ13_bitCount_95d88 24 rfl) ?_
  refine lv_topl (fun x8 ex8 => ?_)
  have hf := nm_at ex8 hf
  refine lv_lstore_n (lv' := [(0, .long x8)]) C.1 C.2.1 (dk_at dkJ13_bitCount_95d88 25 rfl) rfl hl (by decide) rfl (fun ls hl => ?_)
  refine lv_lload_n C.1 C.2.1 (dk_at dkJ13_bitCount_95d88 26 rfl) rfl (lv_at hl 0 rfl) ?_
  refine lv_lload_n C.1 C.2.1 (dk_at dkJ13_bitCount_95d88 27 rfl) rfl (lv_at hl 0 rfl) ?_
  refine lv_bipush (v := 8) C.1 C.2.1 (dk_at dkJ13_bitCount_95d88 28 rfl) (by decide) ?_
  refine lv_lushr C.1 C.2.1 (dk_at dkJ13_bitCount_95d88 29 rfl) rfl ?_
  refine lv_topl (fun x9 ex9 => ?_)
  have hf := nm_at ex9 hf
  refine lv_ladd C.1 C.2.1 (dk_at dkJ13_bitCount_95d88 30 rfl) ?_
  refine lv_topl (fun x10 ex10 => ?_)
  have hf := nm_at ex10 hf
  refine lv_lstore_n (lv' := [(0, .long x10)]) C.1 C.2.1 (dk_at dkJ13_bitCount_95d88 31 rfl) rfl hl (by decide) rfl (fun ls hl => ?_)
  refine lv_lload_n C.1 C.2.1 (dk_at dkJ13_bitCount_95d88 32 rfl) rfl (lv_at hl 0 rfl) ?_
  refine lv_lload_n C.1 C.2.1 (dk_at dkJ13_bitCount_95d88 33 rfl) rfl (lv_at hl 0 rfl) ?_
  refine lv_bipush (v := 16) C.1 C.2.1 (dk_at dkJ13_bitCount_95d88 34 rfl) (by decide) ?_
  refine lv_lushr C.1 C.2.1 (dk_at dkJ13_bitCount_95d88 35 rfl) rfl ?_
  refine lv_topl (fun x11 ex11 => ?_)
  have hf := nm_at ex11 hf
  refine lv_ladd C.1 C.2.1 (dk_at dkJ13_bitCount_95d88 36 rfl) ?_
  refine lv_topl (fun x12 ex12 => ?_)
  have hf := nm_at ex12 hf
  refine lv_lstore_n (lv' := [(0, .long x12)]) C.1 C.2.1 (dk_at dkJ13_bitCount_95d88 37 rfl) rfl hl (by decide) rfl (fun ls hl => ?_)
  refine lv_lload_n C.1 C.2.1 (dk_at dkJ13_bitCount_95d88 38 rfl) rfl (lv_at hl 0 rfl) ?_
  refine lv_lload_n C.1 C.2.1 (dk_at dkJ13_bitCount_95d88 39 rfl) rfl (lv_at hl 0 rfl) ?_
  refine lv_bipush (v := 32) C.1 C.2.1 (dk_at dkJ13_bitCount_95d88 40 rfl) (by decide) ?_
  refine lv_lushr C.1 C.2.1 (dk_at dkJ13_bitCount_95d88 41 rfl) rfl ?_
  refine lv_topl (fun x13 ex13 => ?_)
  have hf := nm_at ex13 hf
  refine lv_ladd C.1 C.2.1 (dk_at dkJ13_bitCount_95d88 42 rfl) ?_
  refine lv_topl (fun x14 ex14 => ?_)
  have hf := nm_at ex14 hf
  refine lv_lstore_n (lv' := [(0, .long x14)]) C.1 C.2.1 (dk_at dkJ13_bitCount_95d88 43 rfl) rfl hl (by decide) rfl (fun ls hl => ?_)
  refine lv_lload_n C.1 C.2.1 (dk_at dkJ13_bitCount_95d88 44 rfl) rfl (lv_at hl 0 rfl) ?_
  refine lv_l2i C.1 C.2.1 (dk_at dkJ13_bitCount_95d88 45 rfl) rfl ?_
  refine lv_topi (fun x15 ex15 => ?_)
  have hf := nm_at ex15 hf
  refine lv_bipush (v := 127) C.1 C.2.1 (dk_at dkJ13_bitCount_95d88 46 rfl) (by decide) ?_
  refine lv_iand C.1 C.2.1 (dk_at dkJ13_bitCount_95d88 47 rfl) ?_
  refine lv_topi (fun x16 ex16 => ?_)
  have hf := nm_at ex16 hf
  cases hf
  exact fin _ _ _ (dk_at dkJ13_bitCount_95d88 48 rfl) rfl
-- J6.bitCount_0f7a4
abbrev tbJ6_bitCount_0f7a4 : List (Nat × Instr × Nat) := [(0, .iload_n 0, 1), (1, .iload_n 0, 1), (2, .iconst 1, 1), (3, .iushr, 1), (4, .ldc_w 265, 3), (7, .iand, 1), (8, .isub, 1), (9, .istore_n 0, 1), (10, .iload_n 0, 1), (11, .ldc_w 266, 3), (14, .iand, 1), (15, .iload_n 0, 1), (16, .iconst 2, 1), (17, .iushr, 1), (18, .ldc_w 266, 3), (21, .iand, 1), (22, .iadd, 1), (23, .istore_n 0, 1), (24, .iload_n 0, 1), (25, .iload_n 0, 1), (26, .iconst 4, 1), (27, .iushr, 1), (28, .iadd, 1), (29, .ldc_w 267, 3), (32, .iand, 1), (33, .istore_n 0, 1), (34, .iload_n 0, 1), (35, .iload_n 0, 1), (36, .bipush 8, 2), (38, .iushr, 1), (39, .iadd, 1), (40, .istore_n 0, 1), (41, .iload_n 0, 1), (42, .iload_n 0, 1), (43, .bipush 16, 2), (45, .iushr, 1), (46, .iadd, 1), (47, .istore_n 0, 1), (48, .iload_n 0, 1), (49, .bipush 63, 2), (51, .iand, 1), (52, .ireturn, 1)]
theorem dkJ6_bitCount_0f7a4 : dk cJ6_bitCount_0f7a4 tbJ6_bitCount_0f7a4 := dk_of (by decide +kernel)
abbrev cdJ6_bitCount_0f7a4 : Cond := Cond.code yJ6_bitCount_0f7a4 cJ6_bitCount_0f7a4 1 (some .int)
abbrev rmJ6_bitCount_0f7a4 : Room := { frames := 0, cells := 0, slots := 0, locals := 0 }
theorem mwJ6_bitCount_0f7a4 : Cond.static yJ6_bitCount_0f7a4 ∈ wsL_law ∧ Cond.initialized yJ6_bitCount_0f7a4.cls ∈ wsL_law ∧ cdJ6_bitCount_0f7a4 ∈ wsL_law := ⟨inr28 _ (List.mem_of_getElem? (i := 15) rfl), inr28 _ (List.mem_of_getElem? (i := 16) rfl), inr28 _ (List.mem_of_getElem? (i := 17) rfl)⟩
theorem hdJ6_bitCount_0f7a4 : yJ6_bitCount_0f7a4.cls ≠ "java/lang/invoke/MethodHandle" ∧ yJ6_bitCount_0f7a4.cls ≠ "java/lang/invoke/VarHandle" ∧ (parseMethodDescriptor yJ6_bitCount_0f7a4.desc).map (fun d => d.parameters.length) = some 1 := by decide +kernel
set_option maxHeartbeats 4000000 in
set_option maxRecDepth 100000 in
theorem kJ6_bitCount_0f7a4 (l : Launch) (p1 : Int32) (res : Int32) (hf : fJ6_bitCount_0f7a4 p1 = some res) : Met l yJ6_bitCount_0f7a4 (cdJ6_bitCount_0f7a4 :: wsL_law) rmJ6_bitCount_0f7a4 (va_Pc [.int p1] (fun _ => True)) (vp_Si (fun x => x = res)) 0 0 (fun _ => False) := by
  refine Met_sti (cc := cJ6_bitCount_0f7a4) (maxL := 1) (by decide) rfl (Nat.le_of_ble_eq_true rfl) ?_
  intro P E Z Mi AR BE ME CO Q C fin ls hl
  have hl : lv_has ls 1 [(0, .int p1)] := hl
  unfold fJ6_bitCount_0f7a4 at hf
  refine lv_iload_n C.1 C.2.1 (dk_at dkJ6_bitCount_0f7a4 0 rfl) rfl (lv_at hl 0 rfl) ?_
  refine lv_iload_n C.1 C.2.1 (dk_at dkJ6_bitCount_0f7a4 1 rfl) rfl (lv_at hl 0 rfl) ?_
  refine lv_iconst (v := 1) C.1 C.2.1 (dk_at dkJ6_bitCount_0f7a4 2 rfl) (by decide) ?_
  refine lv_iushr C.1 C.2.1 (dk_at dkJ6_bitCount_0f7a4 3 rfl) rfl ?_
  refine lv_topi (fun x1 ex1 => ?_)
  have hf := nm_at ex1 hf
  refine lv_ldcw (v := 1431655765) C.1 C.2.1 C.2.2.2.1 (C.2.2.2.2 _ (List.mem_cons_of_mem _ (inr28 _ (List.mem_of_getElem? (i := 18) rfl)))) (dk_at dkJ6_bitCount_0f7a4 4 rfl) ?_
  refine lv_iand C.1 C.2.1 (dk_at dkJ6_bitCount_0f7a4 5 rfl) ?_
  refine lv_isub C.1 C.2.1 (dk_at dkJ6_bitCount_0f7a4 6 rfl) ?_
  refine lv_topi (fun x2 ex2 => ?_)
  have hf := nm_at ex2 hf
  refine lv_istore_n (lv' := [(0, .int x2)]) C.1 C.2.1 (dk_at dkJ6_bitCount_0f7a4 7 rfl) rfl hl (by decide) rfl (fun ls hl => ?_)
  refine lv_iload_n C.1 C.2.1 (dk_at dkJ6_bitCount_0f7a4 8 rfl) rfl (lv_at hl 0 rfl) ?_
  refine lv_ldcw (v := 858993459) C.1 C.2.1 C.2.2.2.1 (C.2.2.2.2 _ (List.mem_cons_of_mem _ (inr28 _ (List.mem_of_getElem? (i := 19) rfl)))) (dk_at dkJ6_bitCount_0f7a4 9 rfl) ?_
  refine lv_iand C.1 C.2.1 (dk_at dkJ6_bitCount_0f7a4 10 rfl) ?_
  refine lv_topi (fun x3 ex3 => ?_)
  have hf := nm_at ex3 hf
  refine lv_iload_n C.1 C.2.1 (dk_at dkJ6_bitCount_0f7a4 11 rfl) rfl (lv_at hl 0 rfl) ?_
  refine lv_iconst (v := 2) C.1 C.2.1 (dk_at dkJ6_bitCount_0f7a4 12 rfl) (by decide) ?_
  refine lv_iushr C.1 C.2.1 (dk_at dkJ6_bitCount_0f7a4 13 rfl) rfl ?_
  refine lv_topi (fun x4 ex4 => ?_)
  have hf := nm_at ex4 hf
  refine lv_ldcw (v := 858993459) C.1 C.2.1 C.2.2.2.1 (C.2.2.2.2 _ (List.mem_cons_of_mem _ (inr28 _ (List.mem_of_getElem? (i := 19) rfl)))) (dk_at dkJ6_bitCount_0f7a4 14 rfl) ?_
  refine lv_iand C.1 C.2.1 (dk_at dkJ6_bitCount_0f7a4 15 rfl) ?_
  refine lv_iadd C.1 C.2.1 (dk_at dkJ6_bitCount_0f7a4 16 rfl) ?_
  refine lv_topi (fun x5 ex5 => ?_)
  have hf := nm_at ex5 hf
  refine lv_istore_n (lv' := [(0, .int x5)]) C.1 C.2.1 (dk_at dkJ6_bitCount_0f7a4 17 rfl) rfl hl (by decide) rfl (fun ls hl => ?_)
  refine lv_iload_n C.1 C.2.1 (dk_at dkJ6_bitCount_0f7a4 18 rfl) rfl (lv_at hl 0 rfl) ?_
  refine lv_iload_n C.1 C.2.1 (dk_at dkJ6_bitCount_0f7a4 19 rfl) rfl (lv_at hl 0 rfl) ?_
  refine lv_iconst (v := 4) C.1 C.2.1 (dk_at dkJ6_bitCount_0f7a4 20 rfl) (by decide) ?_
  refine lv_iushr C.1 C.2.1 (dk_at dkJ6_bitCount_0f7a4 21 rfl) rfl ?_
  refine lv_topi (fun x6 ex6 => ?_)
  have hf := nm_at ex6 hf
  refine lv_iadd C.1 C.2.1 (dk_at dkJ6_bitCount_0f7a4 22 rfl) ?_
  refine lv_topi (fun x7 ex7 => ?_)
  have hf := nm_at ex7 hf
  refine lv_ldcw (v := 252645135) C.1 C.2.1 C.2.2.2.1 (C.2.2.2.2 _ (List.mem_cons_of_mem _ (inr28 _ (List.mem_of_getElem? (i := 20) rfl)))) (dk_at dkJ6_bitCount_0f7a4 23 rfl) ?_
  refine lv_iand C.1 C.2.1 (dk_at dkJ6_bitCount_0f7a4 24 rfl) ?_
  refine lv_topi (fun x8 ex8 => ?_)
  have hf := nm_at ex8 hf
  refine lv_istore_n (lv' := [(0, .int x8)]) C.1 C.2.1 (dk_at dkJ6_bitCount_0f7a4 25 rfl) rfl hl (by decide) rfl (fun ls hl => ?_)
  refine lv_iload_n C.1 C.2.1 (dk_at dkJ6_bitCount_0f7a4 26 rfl) rfl (lv_at hl 0 rfl) ?_
  refine lv_iload_n C.1 C.2.1 (dk_at dkJ6_bitCount_0f7a4 27 rfl) rfl (lv_at hl 0 rfl) ?_
  refine lv_bipush (v := 8) C.1 C.2.1 (dk_at dkJ6_bitCount_0f7a4 28 rfl) (by decide) ?_
  refine lv_iushr C.1 C.2.1 (dk_at dkJ6_bitCount_0f7a4 29 rfl) rfl ?_
  refine lv_topi (fun x9 ex9 => ?_)
  have hf := nm_at ex9 hf
  refine lv_iadd C.1 C.2.1 (dk_at dkJ6_bitCount_0f7a4 30 rfl) ?_
  refine lv_topi (fun x10 ex10 => ?_)
  have hf := nm_at ex10 hf
  refine lv_istore_n (lv' := [(0, .int x10)]) C.1 C.2.1 (dk_at dkJ6_bitCount_0f7a4 31 rfl) rfl hl (by decide) rfl (fun ls hl => ?_)
  refine lv_iload_n C.1 C.2.1 (dk_at dkJ6_bitCount_0f7a4 32 rfl) rfl (lv_at hl 0 rfl) ?_
  refine lv_iload_n C.1 C.2.1 (dk_at dkJ6_bitCount_0f7a4 33 rfl) rfl (lv_at hl 0 rfl) ?_
  refine lv_bipush (v := 16) C.1 C.2.1 (dk_at dkJ6_bitCount_0f7a4 34 rfl) (by decide) ?_
  refine lv_iushr C.1 C.2.1 (dk_at dkJ6_bitCount_0f7a4 35 rfl) rfl ?_
  refine lv_topi (fun x11 ex11 => ?_)
  have hf := nm_at ex11 hf
  refine lv_iadd C.1 C.2.1 (dk_at dkJ6_bitCount_0f7a4 36 rfl) ?_
  refine lv_topi (fun x12 ex12 => ?_)
  have hf := nm_at ex12 hf
  refine lv_istore_n (lv' := [(0, .int x12)]) C.1 C.2.1 (dk_at dkJ6_bitCount_0f7a4 37 rfl) rfl hl (by decide) rfl (fun ls hl => ?_)
  refine lv_iload_n C.1 C.2.1 (dk_at dkJ6_bitCount_0f7a4 38 rfl) rfl (lv_at hl 0 rfl) ?_
  refine lv_bipush (v := 63) C.1 C.2.1 (dk_at dkJ6_bitCount_0f7a4 39 rfl) (by decide) ?_
  refine lv_iand C.1 C.2.1 (dk_at dkJ6_bitCount_0f7a4 40 rfl) ?_
  refine lv_topi (fun x13 ex13 => ?_)
  have hf := nm_at ex13 hf
  cases hf
  exact fin _ _ _ (dk_at dkJ6_bitCount_0f7a4 41 rfl) rfl
