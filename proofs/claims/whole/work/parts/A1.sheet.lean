-- X4.renew
abbrev tbX4_renew : List (Nat × Instr × Nat) := [(0, .aload_n 0, 1), (1, .iconst 1, 1), (2, .putfield 15, 3), (5, .aload_n 0, 1), (6, .iload_n 1, 1), (7, .putfield 19, 3), (10, .aload_n 0, 1), (11, .iload_n 2, 1), (12, .putfield 23, 3), (15, .iconst 0, 1), (16, .istore_n 3, 1), (17, .iload_n 3, 1), (18, .bipush 40, 2), (20, .if_icmp .ge 16, 3), (23, .aload_n 0, 1), (24, .getfield 9, 3), (27, .iload_n 3, 1), (28, .iconst 0, 1), (29, .iastore, 1), (30, .iinc 3 1, 3), (33, .goto (-16), 3), (36, .return_, 1)]
theorem dkX4_renew : dk cX4_renew tbX4_renew := dk_of (by decide +kernel)
abbrev cdX4_renew : Cond := Cond.code yX4_renew cX4_renew 4 none
abbrev rmX4_renew : Room := { frames := 0, cells := 0, slots := 0, locals := 0 }
theorem mwX4_renew : Cond.instanceMethod yX4_renew ∈ wsL_law ∧ Cond.selects RX4 yX4_renew yX4_renew ∈ wsL_law ∧ Cond.initialized RX4 ∈ wsL_law ∧ cdX4_renew ∈ wsL_law := ⟨inr39 _ (List.mem_of_getElem? (i := 15) rfl), inr39 _ (List.mem_of_getElem? (i := 16) rfl), inr2 _ (List.mem_of_getElem? (i := 9) rfl), inr39 _ (List.mem_of_getElem? (i := 17) rfl)⟩
theorem hdX4_renew : yX4_renew.cls = RX4 ∧ yX4_renew.cls ≠ "java/lang/invoke/MethodHandle" ∧ yX4_renew.cls ≠ "java/lang/invoke/VarHandle" ∧ (parseMethodDescriptor yX4_renew.desc).map (fun d => d.parameters.length) = some 2 := by decide +kernel
set_option maxHeartbeats 4000000 in
set_option maxRecDepth 100000 in
theorem kX4_renew (l : Launch) (g : Gx) (sz : Nat) (a_s : Nat → Nat) (s : ST) (p1 : Int32) (p2 : Int32) (s_o : ST) (hf : fX4_renew p1 p2 s = some s_o) : Met l yX4_renew (cdX4_renew :: wsL_law) rmX4_renew (va_Pc [.ref (a_s 0), .int p1, .int p2] (RWp g sz (wS g a_s s))) (va_Qv (fun _ : Unit => True) (fun _ => RWq g (va_A (wS g a_s s) sz) (wS g a_s s_o)) (va_A (wS g a_s s) sz)) 0 0 (va_A (wS g a_s s) sz) := by
  refine Met_rwv (cc := cX4_renew) (maxL := 4) (by decide) rfl (Nat.le_of_ble_eq_true rfl) ?_
  intro P E Z Mi AR BE ME CO A Q C hK hA fin w ls hl
  have hl : lv_has ls 4 [(0, .ref (a_s 0)), (1, .int p1), (2, .int p2)] := hl
  unfold fX4_renew at hf
  refine lv_aload_n C.1 C.2.1 (dk_at dkX4_renew 0 rfl) rfl (lv_at hl 0 rfl) ?_
  refine lv_iconst (v := 1) C.1 C.2.1 (dk_at dkX4_renew 1 rfl) (by decide) ?_
  refine r_put (v := .int 1) C hK w (fun w h => List.mem_cons_of_mem _ (inlX4 w h)) tyX4 tyX4_ok nmX4 0 rfl rfl 0 (by decide) (List.mem_cons_of_mem _ (inr39 _ (List.mem_of_getElem? (i := 18) rfl))) rfl rfl rfl (Nat.le_of_ble_eq_true rfl) (dk_at dkX4_renew 2 rfl) (fun H locs w => ?_)
  obtain ⟨s_1, es_1⟩ : ∃ z : ST, z = sIs' s 1 := ⟨_, rfl⟩
  have hf := nm_at es_1 hf
  have w : Wd g A Z.heap (wS g a_s s_1) H locs := by rw [es_1]; exact w
  refine lv_aload_n C.1 C.2.1 (dk_at dkX4_renew 3 rfl) rfl (lv_at hl 0 rfl) ?_
  refine lv_iload_n C.1 C.2.1 (dk_at dkX4_renew 4 rfl) rfl (lv_at hl 1 rfl) ?_
  refine r_put (v := .int p1) C hK w (fun w h => List.mem_cons_of_mem _ (inlX4 w h)) tyX4 tyX4_ok nmX4 0 rfl rfl 1 (by decide) (List.mem_cons_of_mem _ (inr39 _ (List.mem_of_getElem? (i := 19) rfl))) rfl rfl rfl (Nat.le_of_ble_eq_true rfl) (dk_at dkX4_renew 5 rfl) (fun H locs w => ?_)
  obtain ⟨s_2, es_2⟩ : ∃ z : ST, z = sLa' s_1 p1 := ⟨_, rfl⟩
  have hf := nm_at es_2 hf
  have w : Wd g A Z.heap (wS g a_s s_2) H locs := by rw [es_2]; exact w
  refine lv_aload_n C.1 C.2.1 (dk_at dkX4_renew 6 rfl) rfl (lv_at hl 0 rfl) ?_
  refine lv_iload_n C.1 C.2.1 (dk_at dkX4_renew 7 rfl) rfl (lv_at hl 2 rfl) ?_
  refine r_put (v := .int p2) C hK w (fun w h => List.mem_cons_of_mem _ (inlX4 w h)) tyX4 tyX4_ok nmX4 0 rfl rfl 2 (by decide) (List.mem_cons_of_mem _ (inr39 _ (List.mem_of_getElem? (i := 20) rfl))) rfl rfl rfl (Nat.le_of_ble_eq_true rfl) (dk_at dkX4_renew 8 rfl) (fun H locs w => ?_)
  obtain ⟨s_3, es_3⟩ : ∃ z : ST, z = sSz' s_2 p2 := ⟨_, rfl⟩
  have hf := nm_at es_3 hf
  have w : Wd g A Z.heap (wS g a_s s_3) H locs := by rw [es_3]; exact w
  refine lv_iconst (v := 0) C.1 C.2.1 (dk_at dkX4_renew 9 rfl) (by decide) ?_
  refine lv_istore_n (lv' := [(3, .int 0), (0, .ref (a_s 0)), (1, .int p1), (2, .int p2)]) C.1 C.2.1 (dk_at dkX4_renew 10 rfl) rfl hl (by decide) rfl (fun ls hl => ?_)
  have L6 : ∀ (K : Int32 → ST → Option (ST)), (∀ (v4 : Int32) (s_5 : ST) (H : Heap) (locs : List Loc) (ls : Array Slot), Wd g A Z.heap (wS g a_s s_5) H locs → lv_has ls 4 [] → K v4 s_5 = some s_o → W P l E rmX4_renew Z Mi AR BE ME CO H locs 0 0 Q (F0 Mi 36 ls [])) → ∀ (n : Nat), ∀ (v4 : Int32) (s_5 : ST) (H : Heap) (locs : List Loc) (ls : Array Slot), Wd g A Z.heap (wS g a_s s_5) H locs → lv_has ls 4 [(3, .int v4), (0, .ref (a_s 0))] → fX4_renew_L17 K n v4 s_5 = some s_o → W P l E rmX4_renew Z Mi AR BE ME CO H locs 0 0 Q (F0 Mi 17 ls []) := by
    intro K hKe n
    induction n with
    | zero => intro v4 s_5 H locs ls w hl hf; cases hf
    | succ n ih =>
      intro v4 s_5 H locs ls w hl hf
      rw [fX4_renew_L17] at hf
      refine lv_iload_n C.1 C.2.1 (dk_at dkX4_renew 11 rfl) rfl (lv_at hl 0 rfl) ?_
      refine lv_bipush (v := 40) C.1 C.2.1 (dk_at dkX4_renew 12 rfl) (by decide) ?_
      refine lv_icmp_ge (tgt := 36) C.1 C.2.1 (dk_at dkX4_renew 13 rfl) (by decide) (fun c7 => ?_) (fun c7 => ?_)
      · have hf := (if_pos c7).symm.trans hf
        exact hKe v4 s_5 _ _ _ w (lv_sub hl [] rfl) hf
      · have hf := (if_neg c7).symm.trans hf
        refine lv_aload_n C.1 C.2.1 (dk_at dkX4_renew 14 rfl) rfl (lv_at hl 1 rfl) ?_
        refine r_get (v := .ref (a_s 1)) C hK w.1 (fun w h => List.mem_cons_of_mem _ (inlX4 w h)) 0 rfl rfl 3 (by decide) (List.mem_cons_of_mem _ (inr3 _ (List.mem_of_getElem? (i := 23) rfl))) rfl (dk_at dkX4_renew 15 rfl) ?_
        refine lv_iload_n C.1 C.2.1 (dk_at dkX4_renew 16 rfl) rfl (lv_at hl 0 rfl) ?_
        refine lv_iconst (v := 0) C.1 C.2.1 (dk_at dkX4_renew 17 rfl) (by decide) ?_
        obtain ⟨h8, hf⟩ := gd_at hf
        refine r_iast (k := v4.toNatClampNeg) (f := (sCe s_5)) C hK w 1 rfl h8 rfl (dk_at dkX4_renew 18 rfl) (fun H locs w => ?_)
        obtain ⟨s_9, es_9⟩ : ∃ z : ST, z = sCe' s_5 (upd (sCe s_5) v4.toNatClampNeg 0) := ⟨_, rfl⟩
        have hf := nm_at es_9 hf
        have w : Wd g A Z.heap (wS g a_s s_9) H locs := by rw [es_9]; exact w
        obtain ⟨x10, ex10⟩ : ∃ z : Int32, z = v4 + 1 := ⟨_, rfl⟩
        have hf := nm_at ex10 hf
        refine lv_iinc (v := x10) (lv' := [(3, .int x10), (0, .ref (a_s 0))]) C.1 C.2.1 (dk_at dkX4_renew 19 rfl) hl (k := 0) rfl (by rw [ex10]; rfl) (by decide) rfl (fun ls hl => ?_)
        refine lv_goto (tgt := 17) C.1 C.2.1 (dk_at dkX4_renew 20 rfl) (by decide) ?_
        exact ih x10 s_9 _ _ _ w (lv_sub hl [0, 1] rfl) hf
  refine L6 _ ?_ 4096 0 s_3 _ _ _ w (lv_sub hl [0, 1] rfl) hf
  clear hf
  intro v4 s_5 H locs ls w hl hf
  cases hf
  exact fin _ _ _ _ (dk_at dkX4_renew 21 rfl) w
-- X4.flawAt
abbrev tbX4_flawAt : List (Nat × Instr × Nat) := [(0, .aload_n 0, 1), (1, .getfield 15, 3), (4, .ifCond .ne 5, 3), (7, .iconst 1, 1), (8, .ireturn, 1), (9, .aload_n 0, 1), (10, .getfield 19, 3), (13, .iload_n 1, 1), (14, .if_icmp .eq 5, 3), (17, .iconst 3, 1), (18, .ireturn, 1), (19, .iload_n 2, 1), (20, .ifCond .lt 11, 3), (23, .iload_n 2, 1), (24, .aload_n 0, 1), (25, .getfield 23, 3), (28, .if_icmp .lt 7, 3), (31, .iconst 2, 1), (32, .goto 4, 3), (35, .iconst 0, 1), (36, .ireturn, 1)]
theorem dkX4_flawAt : dk cX4_flawAt tbX4_flawAt := dk_of (by decide +kernel)
abbrev cdX4_flawAt : Cond := Cond.code yX4_flawAt cX4_flawAt 3 (some .int)
abbrev rmX4_flawAt : Room := { frames := 0, cells := 0, slots := 0, locals := 0 }
theorem mwX4_flawAt : Cond.instanceMethod yX4_flawAt ∈ wsL_law ∧ Cond.selects RX4 yX4_flawAt yX4_flawAt ∈ wsL_law ∧ Cond.initialized RX4 ∈ wsL_law ∧ cdX4_flawAt ∈ wsL_law := ⟨inr40 _ (List.mem_of_getElem? (i := 10) rfl), inr40 _ (List.mem_of_getElem? (i := 11) rfl), inr2 _ (List.mem_of_getElem? (i := 9) rfl), inr40 _ (List.mem_of_getElem? (i := 12) rfl)⟩
theorem hdX4_flawAt : yX4_flawAt.cls = RX4 ∧ yX4_flawAt.cls ≠ "java/lang/invoke/MethodHandle" ∧ yX4_flawAt.cls ≠ "java/lang/invoke/VarHandle" ∧ (parseMethodDescriptor yX4_flawAt.desc).map (fun d => d.parameters.length) = some 2 := by decide +kernel
set_option maxHeartbeats 4000000 in
set_option maxRecDepth 100000 in
theorem kX4_flawAt (l : Launch) (g : Gx) (a_s : Nat → Nat) (s : ST) (p1 : Int32) (p2 : Int32) (res : Int32) (hf : fX4_flawAt p1 p2 s = some res) : Met l yX4_flawAt (cdX4_flawAt :: wsL_law) rmX4_flawAt (va_Pc [.ref (a_s 0), .int p1, .int p2] (RO g (wS g a_s s))) (vp_Si (fun x => x = res)) 0 0 (fun _ => False) := by
  refine Met_roi (cc := cX4_flawAt) (maxL := 3) (by decide) rfl (Nat.le_of_ble_eq_true rfl) ?_
  intro P E Z Mi AR BE ME CO Q C fin hK hP ls hl
  have hl : lv_has ls 3 [(0, .ref (a_s 0)), (1, .int p1), (2, .int p2)] := hl
  unfold fX4_flawAt at hf
  refine lv_aload_n C.1 C.2.1 (dk_at dkX4_flawAt 0 rfl) rfl (lv_at hl 0 rfl) ?_
  refine r_get (v := .int (sIs s)) C hK hP (fun w h => List.mem_cons_of_mem _ (inlX4 w h)) 0 rfl rfl 0 (by decide) (List.mem_cons_of_mem _ (inr39 _ (List.mem_of_getElem? (i := 18) rfl))) rfl (dk_at dkX4_flawAt 1 rfl) ?_
  refine lv_if_ne (tgt := 9) C.1 C.2.1 (dk_at dkX4_flawAt 2 rfl) (by decide) (fun c1 => ?_) (fun c1 => ?_)
  · have hf := (if_neg c1).symm.trans hf
    refine lv_aload_n C.1 C.2.1 (dk_at dkX4_flawAt 5 rfl) rfl (lv_at hl 0 rfl) ?_
    refine r_get (v := .int (sLa s)) C hK hP (fun w h => List.mem_cons_of_mem _ (inlX4 w h)) 0 rfl rfl 1 (by decide) (List.mem_cons_of_mem _ (inr39 _ (List.mem_of_getElem? (i := 19) rfl))) rfl (dk_at dkX4_flawAt 6 rfl) ?_
    refine lv_iload_n C.1 C.2.1 (dk_at dkX4_flawAt 7 rfl) rfl (lv_at hl 1 rfl) ?_
    refine lv_icmp_eq (tgt := 19) C.1 C.2.1 (dk_at dkX4_flawAt 8 rfl) (by decide) (fun c2 => ?_) (fun c2 => ?_)
    · have hf := (if_pos c2).symm.trans hf
      refine lv_iload_n C.1 C.2.1 (dk_at dkX4_flawAt 11 rfl) rfl (lv_at hl 2 rfl) ?_
      refine lv_if_lt (tgt := 31) C.1 C.2.1 (dk_at dkX4_flawAt 12 rfl) (by decide) (fun c3 => ?_) (fun c3 => ?_)
      · have hf := (if_pos c3).symm.trans hf
        refine lv_iconst (v := 2) C.1 C.2.1 (dk_at dkX4_flawAt 17 rfl) (by decide) ?_
        refine lv_goto (tgt := 36) C.1 C.2.1 (dk_at dkX4_flawAt 18 rfl) (by decide) ?_
        cases hf
        exact fin _ _ _ (dk_at dkX4_flawAt 20 rfl) rfl
      · have hf := (if_neg c3).symm.trans hf
        refine lv_iload_n C.1 C.2.1 (dk_at dkX4_flawAt 13 rfl) rfl (lv_at hl 2 rfl) ?_
        refine lv_aload_n C.1 C.2.1 (dk_at dkX4_flawAt 14 rfl) rfl (lv_at hl 0 rfl) ?_
        refine r_get (v := .int (sSz s)) C hK hP (fun w h => List.mem_cons_of_mem _ (inlX4 w h)) 0 rfl rfl 2 (by decide) (List.mem_cons_of_mem _ (inr39 _ (List.mem_of_getElem? (i := 20) rfl))) rfl (dk_at dkX4_flawAt 15 rfl) ?_
        refine lv_icmp_lt (tgt := 35) C.1 C.2.1 (dk_at dkX4_flawAt 16 rfl) (by decide) (fun c4 => ?_) (fun c4 => ?_)
        · have hf := (if_pos c4).symm.trans hf
          refine lv_iconst (v := 0) C.1 C.2.1 (dk_at dkX4_flawAt 19 rfl) (by decide) ?_
          cases hf
          exact fin _ _ _ (dk_at dkX4_flawAt 20 rfl) rfl
        · have hf := (if_neg c4).symm.trans hf
          refine lv_iconst (v := 2) C.1 C.2.1 (dk_at dkX4_flawAt 17 rfl) (by decide) ?_
          refine lv_goto (tgt := 36) C.1 C.2.1 (dk_at dkX4_flawAt 18 rfl) (by decide) ?_
          cases hf
          exact fin _ _ _ (dk_at dkX4_flawAt 20 rfl) rfl
    · have hf := (if_neg c2).symm.trans hf
      refine lv_iconst (v := 3) C.1 C.2.1 (dk_at dkX4_flawAt 9 rfl) (by decide) ?_
      cases hf
      exact fin _ _ _ (dk_at dkX4_flawAt 10 rfl) rfl
  · have hf := (if_pos c1).symm.trans hf
    refine lv_iconst (v := 1) C.1 C.2.1 (dk_at dkX4_flawAt 3 rfl) (by decide) ?_
    cases hf
    exact fin _ _ _ (dk_at dkX4_flawAt 4 rfl) rfl
-- X4.flawOfThree
abbrev tbX4_flawOfThree : List (Nat × Instr × Nat) := [(0, .iconst 0, 1), (1, .istore_n 3, 1), (2, .iconst 0, 1), (3, .istore 4, 2), (5, .iload 4, 2), (7, .iconst 3, 1), (8, .if_icmp .ge 23, 3), (11, .iload_n 3, 1), (12, .ifCond .ne 19, 3), (15, .aload_n 0, 1), (16, .iload_n 1, 1), (17, .iload_n 2, 1), (18, .iload 4, 2), (20, .iadd, 1), (21, .invokevirtual 26, 3), (24, .istore_n 3, 1), (25, .iinc 4 1, 3), (28, .goto (-23), 3), (31, .iload_n 3, 1), (32, .ireturn, 1)]
theorem dkX4_flawOfThree : dk cX4_flawOfThree tbX4_flawOfThree := dk_of (by decide +kernel)
abbrev cdX4_flawOfThree : Cond := Cond.code yX4_flawOfThree cX4_flawOfThree 5 (some .int)
abbrev rmX4_flawOfThree : Room := { frames := 1, cells := 0, slots := 0, locals := 22 }
theorem mwX4_flawOfThree : Cond.instanceMethod yX4_flawOfThree ∈ wsL_law ∧ Cond.selects RX4 yX4_flawOfThree yX4_flawOfThree ∈ wsL_law ∧ Cond.initialized RX4 ∈ wsL_law ∧ cdX4_flawOfThree ∈ wsL_law := ⟨inr41 _ (List.mem_of_getElem? (i := 3) rfl), inr41 _ (List.mem_of_getElem? (i := 4) rfl), inr2 _ (List.mem_of_getElem? (i := 9) rfl), inr41 _ (List.mem_of_getElem? (i := 5) rfl)⟩
theorem hdX4_flawOfThree : yX4_flawOfThree.cls = RX4 ∧ yX4_flawOfThree.cls ≠ "java/lang/invoke/MethodHandle" ∧ yX4_flawOfThree.cls ≠ "java/lang/invoke/VarHandle" ∧ (parseMethodDescriptor yX4_flawOfThree.desc).map (fun d => d.parameters.length) = some 2 := by decide +kernel
set_option maxHeartbeats 4000000 in
set_option maxRecDepth 100000 in
theorem kX4_flawOfThree (l : Launch) (g : Gx) (a_s : Nat → Nat) (s : ST) (p1 : Int32) (p2 : Int32) (res : Int32) (hf : fX4_flawOfThree p1 p2 s = some res) : Met l yX4_flawOfThree (cdX4_flawOfThree :: wsL_law) rmX4_flawOfThree (va_Pc [.ref (a_s 0), .int p1, .int p2] (RO g (wS g a_s s))) (vp_Si (fun x => x = res)) 0 0 (fun _ => False) := by
  refine Met_roi (cc := cX4_flawOfThree) (maxL := 5) (by decide) rfl (Nat.le_of_ble_eq_true rfl) ?_
  intro P E Z Mi AR BE ME CO Q C fin hK hP ls hl
  have hl : lv_has ls 5 [(0, .ref (a_s 0)), (1, .int p1), (2, .int p2)] := hl
  unfold fX4_flawOfThree at hf
  refine lv_iconst (v := 0) C.1 C.2.1 (dk_at dkX4_flawOfThree 0 rfl) (by decide) ?_
  refine lv_istore_n (lv' := [(3, .int 0), (0, .ref (a_s 0)), (1, .int p1), (2, .int p2)]) C.1 C.2.1 (dk_at dkX4_flawOfThree 1 rfl) rfl hl (by decide) rfl (fun ls hl => ?_)
  refine lv_iconst (v := 0) C.1 C.2.1 (dk_at dkX4_flawOfThree 2 rfl) (by decide) ?_
  refine lv_istore (lv' := [(4, .int 0), (3, .int 0), (0, .ref (a_s 0)), (1, .int p1), (2, .int p2)]) C.1 C.2.1 (dk_at dkX4_flawOfThree 3 rfl) hl (by decide) rfl (fun ls hl => ?_)
  have L3 : ∀ (K : Int32 → Int32 → Option (Int32)), (∀ (v1 : Int32) (v2 : Int32) (ls : Array Slot), lv_has ls 5 [(3, .int v2)] → K v1 v2 = some res → W P l E rmX4_flawOfThree Z Mi AR BE ME CO Z.heap [] 0 0 Q (F0 Mi 31 ls [])) → ∀ (n : Nat), ∀ (v1 : Int32) (v2 : Int32) (ls : Array Slot), lv_has ls 5 [(4, .int v1), (3, .int v2), (0, .ref (a_s 0)), (1, .int p1), (2, .int p2)] → fX4_flawOfThree_L5 s p1 p2 K n v1 v2 = some res → W P l E rmX4_flawOfThree Z Mi AR BE ME CO Z.heap [] 0 0 Q (F0 Mi 5 ls []) := by
    intro K hKe n
    induction n with
    | zero => intro v1 v2 ls hl hf; cases hf
    | succ n ih =>
      intro v1 v2 ls hl hf
      rw [fX4_flawOfThree_L5] at hf
      refine lv_iload C.1 C.2.1 (dk_at dkX4_flawOfThree 4 rfl) (lv_at hl 0 rfl) ?_
      refine lv_iconst (v := 3) C.1 C.2.1 (dk_at dkX4_flawOfThree 5 rfl) (by decide) ?_
      refine lv_icmp_ge (tgt := 31) C.1 C.2.1 (dk_at dkX4_flawOfThree 6 rfl) (by decide) (fun c4 => ?_) (fun c4 => ?_)
      · have hf := (if_pos c4).symm.trans hf
        exact hKe v1 v2 _ (lv_sub hl [1] rfl) hf
      · have hf := (if_neg c4).symm.trans hf
        refine lv_iload_n C.1 C.2.1 (dk_at dkX4_flawOfThree 7 rfl) rfl (lv_at hl 1 rfl) ?_
        refine lv_if_ne (tgt := 31) C.1 C.2.1 (dk_at dkX4_flawOfThree 8 rfl) (by decide) (fun c5 => ?_) (fun c5 => ?_)
        · have hf := (if_neg c5).symm.trans hf
          exact hKe v1 v2 _ (lv_sub hl [1] rfl) hf
        · have hf := (if_pos c5).symm.trans hf
          refine lv_aload_n C.1 C.2.1 (dk_at dkX4_flawOfThree 9 rfl) rfl (lv_at hl 2 rfl) ?_
          refine lv_iload_n C.1 C.2.1 (dk_at dkX4_flawOfThree 10 rfl) rfl (lv_at hl 3 rfl) ?_
          refine lv_iload_n C.1 C.2.1 (dk_at dkX4_flawOfThree 11 rfl) rfl (lv_at hl 4 rfl) ?_
          refine lv_iload C.1 C.2.1 (dk_at dkX4_flawOfThree 12 rfl) (lv_at hl 0 rfl) ?_
          refine lv_iadd C.1 C.2.1 (dk_at dkX4_flawOfThree 13 rfl) ?_
          refine lv_topi (fun x6 ex6 => ?_)
          have hf := nm_at ex6 hf
          obtain ⟨r7, hq8, hf⟩ := bd1_at hf
          refine r_roV (As := [.int p1, .int x6]) (rest := []) C (kX4_flawAt l g a_s s p1 x6 r7 hq8) (cwV0 C (inr41 _ (List.mem_of_getElem? (i := 6) rfl)) mwX4_flawAt hdX4_flawAt ⟨Nat.le_of_ble_eq_true rfl, Nat.le_of_ble_eq_true rfl⟩) hK hP rfl rfl rfl hl.1 rfl (Nat.le_of_ble_eq_true rfl) ⟨Nat.zero_le _, Nat.zero_le _⟩ (dk_at dkX4_flawOfThree 14 rfl) ?_
          refine lv_istore_n (lv' := [(3, .int r7), (4, .int v1), (0, .ref (a_s 0)), (1, .int p1), (2, .int p2)]) C.1 C.2.1 (dk_at dkX4_flawOfThree 15 rfl) rfl hl (by decide) rfl (fun ls hl => ?_)
          obtain ⟨x9, ex9⟩ : ∃ z : Int32, z = v1 + 1 := ⟨_, rfl⟩
          have hf := nm_at ex9 hf
          refine lv_iinc (v := x9) (lv' := [(4, .int x9), (3, .int r7), (0, .ref (a_s 0)), (1, .int p1), (2, .int p2)]) C.1 C.2.1 (dk_at dkX4_flawOfThree 16 rfl) hl (k := 1) rfl (by rw [ex9]; rfl) (by decide) rfl (fun ls hl => ?_)
          refine lv_goto (tgt := 5) C.1 C.2.1 (dk_at dkX4_flawOfThree 17 rfl) (by decide) ?_
          exact ih x9 r7 _ (lv_sub hl [0, 1, 2, 3, 4] rfl) hf
  refine L3 _ ?_ 4096 0 0 _ (lv_sub hl [0, 1, 2, 3, 4] rfl) hf
  clear hf
  intro v1 v2 ls hl hf
  refine lv_iload_n C.1 C.2.1 (dk_at dkX4_flawOfThree 18 rfl) rfl (lv_at hl 0 rfl) ?_
  cases hf
  exact fin _ _ _ (dk_at dkX4_flawOfThree 19 rfl) rfl
-- X4.put
abbrev tbX4_put : List (Nat × Instr × Nat) := [(0, .iload_n 1, 1), (1, .ifCond .lt 9, 3), (4, .iload_n 1, 1), (5, .bipush 40, 2), (7, .if_icmp .lt 4, 3), (10, .return_, 1), (11, .aload_n 0, 1), (12, .getfield 19, 3), (15, .lookupswitch 47 #[(0, 25), (1, 36)], 25), (40, .aload_n 0, 1), (41, .getfield 9, 3), (44, .iload_n 1, 1), (45, .iload_n 2, 1), (46, .i2b, 1), (47, .iastore, 1), (48, .goto 21, 3), (51, .aload_n 0, 1), (52, .getfield 9, 3), (55, .iload_n 1, 1), (56, .iload_n 2, 1), (57, .i2s, 1), (58, .iastore, 1), (59, .goto 10, 3), (62, .aload_n 0, 1), (63, .getfield 9, 3), (66, .iload_n 1, 1), (67, .iload_n 2, 1), (68, .iastore, 1), (69, .return_, 1)]
theorem dkX4_put : dk cX4_put tbX4_put := dk_of (by decide +kernel)
abbrev cdX4_put : Cond := Cond.code yX4_put cX4_put 3 none
abbrev rmX4_put : Room := { frames := 0, cells := 0, slots := 0, locals := 0 }
theorem mwX4_put : Cond.instanceMethod yX4_put ∈ wsL_law ∧ Cond.selects RX4 yX4_put yX4_put ∈ wsL_law ∧ Cond.initialized RX4 ∈ wsL_law ∧ cdX4_put ∈ wsL_law := ⟨inr40 _ (List.mem_of_getElem? (i := 14) rfl), inr40 _ (List.mem_of_getElem? (i := 15) rfl), inr2 _ (List.mem_of_getElem? (i := 9) rfl), inr40 _ (List.mem_of_getElem? (i := 16) rfl)⟩
theorem hdX4_put : yX4_put.cls = RX4 ∧ yX4_put.cls ≠ "java/lang/invoke/MethodHandle" ∧ yX4_put.cls ≠ "java/lang/invoke/VarHandle" ∧ (parseMethodDescriptor yX4_put.desc).map (fun d => d.parameters.length) = some 2 := by decide +kernel
set_option maxHeartbeats 4000000 in
set_option maxRecDepth 100000 in
theorem kX4_put (l : Launch) (g : Gx) (sz : Nat) (a_s : Nat → Nat) (s : ST) (p1 : Int32) (p2 : Int32) (s_o : ST) (hf : fX4_put p1 p2 s = some s_o) : Met l yX4_put (cdX4_put :: wsL_law) rmX4_put (va_Pc [.ref (a_s 0), .int p1, .int p2] (RWp g sz (wS g a_s s))) (va_Qv (fun _ : Unit => True) (fun _ => RWq g (va_A (wS g a_s s) sz) (wS g a_s s_o)) (va_A (wS g a_s s) sz)) 0 0 (va_A (wS g a_s s) sz) := by
  refine Met_rwv (cc := cX4_put) (maxL := 3) (by decide) rfl (Nat.le_of_ble_eq_true rfl) ?_
  intro P E Z Mi AR BE ME CO A Q C hK hA fin w ls hl
  have hl : lv_has ls 3 [(0, .ref (a_s 0)), (1, .int p1), (2, .int p2)] := hl
  unfold fX4_put at hf
  refine lv_iload_n C.1 C.2.1 (dk_at dkX4_put 0 rfl) rfl (lv_at hl 1 rfl) ?_
  refine lv_if_lt (tgt := 10) C.1 C.2.1 (dk_at dkX4_put 1 rfl) (by decide) (fun c1 => ?_) (fun c1 => ?_)
  · have hf := (if_pos c1).symm.trans hf
    cases hf
    exact fin _ _ _ _ (dk_at dkX4_put 5 rfl) w
  · have hf := (if_neg c1).symm.trans hf
    refine lv_iload_n C.1 C.2.1 (dk_at dkX4_put 2 rfl) rfl (lv_at hl 1 rfl) ?_
    refine lv_bipush (v := 40) C.1 C.2.1 (dk_at dkX4_put 3 rfl) (by decide) ?_
    refine lv_icmp_lt (tgt := 11) C.1 C.2.1 (dk_at dkX4_put 4 rfl) (by decide) (fun c2 => ?_) (fun c2 => ?_)
    · have hf := (if_pos c2).symm.trans hf
      refine lv_aload_n C.1 C.2.1 (dk_at dkX4_put 6 rfl) rfl (lv_at hl 0 rfl) ?_
      refine r_get (v := .int (sLa s)) C hK w.1 (fun w h => List.mem_cons_of_mem _ (inlX4 w h)) 0 rfl rfl 1 (by decide) (List.mem_cons_of_mem _ (inr39 _ (List.mem_of_getElem? (i := 19) rfl))) rfl (dk_at dkX4_put 7 rfl) ?_
      by_cases c3 : (sLa s) = 0
      · have hf := (if_pos c3).symm.trans hf
        refine lv_lookup (off := 25) (tgt := 40) C.1 C.2.1 (dk_at dkX4_put 8 rfl) (by decide) (by rw [c3]; rfl) (by decide) ?_
        refine lv_aload_n C.1 C.2.1 (dk_at dkX4_put 9 rfl) rfl (lv_at hl 0 rfl) ?_
        refine r_get (v := .ref (a_s 1)) C hK w.1 (fun w h => List.mem_cons_of_mem _ (inlX4 w h)) 0 rfl rfl 3 (by decide) (List.mem_cons_of_mem _ (inr3 _ (List.mem_of_getElem? (i := 23) rfl))) rfl (dk_at dkX4_put 10 rfl) ?_
        refine lv_iload_n C.1 C.2.1 (dk_at dkX4_put 11 rfl) rfl (lv_at hl 1 rfl) ?_
        refine lv_iload_n C.1 C.2.1 (dk_at dkX4_put 12 rfl) rfl (lv_at hl 2 rfl) ?_
        refine lv_i2b C.1 C.2.1 (dk_at dkX4_put 13 rfl) rfl ?_
        refine lv_topi (fun x4 ex4 => ?_)
        have hf := nm_at ex4 hf
        obtain ⟨h5, hf⟩ := gd_at hf
        refine r_iast (k := p1.toNatClampNeg) (f := (sCe s)) C hK w 1 rfl h5 rfl (dk_at dkX4_put 14 rfl) (fun H locs w => ?_)
        obtain ⟨s_6, es_6⟩ : ∃ z : ST, z = sCe' s (upd (sCe s) p1.toNatClampNeg x4) := ⟨_, rfl⟩
        have hf := nm_at es_6 hf
        have w : Wd g A Z.heap (wS g a_s s_6) H locs := by rw [es_6]; exact w
        refine lv_goto (tgt := 69) C.1 C.2.1 (dk_at dkX4_put 15 rfl) (by decide) ?_
        cases hf
        exact fin _ _ _ _ (dk_at dkX4_put 28 rfl) w
      have hf := (if_neg c3).symm.trans hf
      by_cases c7 : (sLa s) = 1
      · have hf := (if_pos c7).symm.trans hf
        refine lv_lookup (off := 36) (tgt := 51) C.1 C.2.1 (dk_at dkX4_put 8 rfl) (by decide) (by rw [c7]; rfl) (by decide) ?_
        refine lv_aload_n C.1 C.2.1 (dk_at dkX4_put 16 rfl) rfl (lv_at hl 0 rfl) ?_
        refine r_get (v := .ref (a_s 1)) C hK w.1 (fun w h => List.mem_cons_of_mem _ (inlX4 w h)) 0 rfl rfl 3 (by decide) (List.mem_cons_of_mem _ (inr3 _ (List.mem_of_getElem? (i := 23) rfl))) rfl (dk_at dkX4_put 17 rfl) ?_
        refine lv_iload_n C.1 C.2.1 (dk_at dkX4_put 18 rfl) rfl (lv_at hl 1 rfl) ?_
        refine lv_iload_n C.1 C.2.1 (dk_at dkX4_put 19 rfl) rfl (lv_at hl 2 rfl) ?_
        refine lv_i2s C.1 C.2.1 (dk_at dkX4_put 20 rfl) rfl ?_
        refine lv_topi (fun x8 ex8 => ?_)
        have hf := nm_at ex8 hf
        obtain ⟨h9, hf⟩ := gd_at hf
        refine r_iast (k := p1.toNatClampNeg) (f := (sCe s)) C hK w 1 rfl h9 rfl (dk_at dkX4_put 21 rfl) (fun H locs w => ?_)
        obtain ⟨s_10, es_10⟩ : ∃ z : ST, z = sCe' s (upd (sCe s) p1.toNatClampNeg x8) := ⟨_, rfl⟩
        have hf := nm_at es_10 hf
        have w : Wd g A Z.heap (wS g a_s s_10) H locs := by rw [es_10]; exact w
        refine lv_goto (tgt := 69) C.1 C.2.1 (dk_at dkX4_put 22 rfl) (by decide) ?_
        cases hf
        exact fin _ _ _ _ (dk_at dkX4_put 28 rfl) w
      have hf := (if_neg c7).symm.trans hf
      have c3n : (sLa s).toInt ≠ 0 := fun q => c3 (by rw [← Int32.ofInt_toInt (sLa s), q]; rfl)
      have c7n : (sLa s).toInt ≠ 1 := fun q => c7 (by rw [← Int32.ofInt_toInt (sLa s), q]; rfl)
      refine lv_lookup (off := 47) (tgt := 62) C.1 C.2.1 (dk_at dkX4_put 8 rfl) (by decide) (by simp [Op.lookupswitch.offset, c3n, c7n, Ne.symm c3n, Ne.symm c7n]) (by decide) ?_
      refine lv_aload_n C.1 C.2.1 (dk_at dkX4_put 23 rfl) rfl (lv_at hl 0 rfl) ?_
      refine r_get (v := .ref (a_s 1)) C hK w.1 (fun w h => List.mem_cons_of_mem _ (inlX4 w h)) 0 rfl rfl 3 (by decide) (List.mem_cons_of_mem _ (inr3 _ (List.mem_of_getElem? (i := 23) rfl))) rfl (dk_at dkX4_put 24 rfl) ?_
      refine lv_iload_n C.1 C.2.1 (dk_at dkX4_put 25 rfl) rfl (lv_at hl 1 rfl) ?_
      refine lv_iload_n C.1 C.2.1 (dk_at dkX4_put 26 rfl) rfl (lv_at hl 2 rfl) ?_
      obtain ⟨h11, hf⟩ := gd_at hf
      refine r_iast (k := p1.toNatClampNeg) (f := (sCe s)) C hK w 1 rfl h11 rfl (dk_at dkX4_put 27 rfl) (fun H locs w => ?_)
      obtain ⟨s_12, es_12⟩ : ∃ z : ST, z = sCe' s (upd (sCe s) p1.toNatClampNeg p2) := ⟨_, rfl⟩
      have hf := nm_at es_12 hf
      have w : Wd g A Z.heap (wS g a_s s_12) H locs := by rw [es_12]; exact w
      cases hf
      exact fin _ _ _ _ (dk_at dkX4_put 28 rfl) w
    · have hf := (if_neg c2).symm.trans hf
      cases hf
      exact fin _ _ _ _ (dk_at dkX4_put 5 rfl) w
-- X4.cellAt
abbrev tbX4_cellAt : List (Nat × Instr × Nat) := [(0, .iload_n 1, 1), (1, .ifCond .lt 9, 3), (4, .iload_n 1, 1), (5, .bipush 40, 2), (7, .if_icmp .lt 7, 3), (10, .iconst 0, 1), (11, .goto 9, 3), (14, .aload_n 0, 1), (15, .getfield 9, 3), (18, .iload_n 1, 1), (19, .iaload, 1), (20, .ireturn, 1)]
theorem dkX4_cellAt : dk cX4_cellAt tbX4_cellAt := dk_of (by decide +kernel)
abbrev cdX4_cellAt : Cond := Cond.code yX4_cellAt cX4_cellAt 2 (some .int)
abbrev rmX4_cellAt : Room := { frames := 0, cells := 0, slots := 0, locals := 0 }
theorem mwX4_cellAt : Cond.instanceMethod yX4_cellAt ∈ wsL_law ∧ Cond.selects RX4 yX4_cellAt yX4_cellAt ∈ wsL_law ∧ Cond.initialized RX4 ∈ wsL_law ∧ cdX4_cellAt ∈ wsL_law := ⟨inr41 _ (List.mem_of_getElem? (i := 8) rfl), inr41 _ (List.mem_of_getElem? (i := 9) rfl), inr2 _ (List.mem_of_getElem? (i := 9) rfl), inr41 _ (List.mem_of_getElem? (i := 10) rfl)⟩
theorem hdX4_cellAt : yX4_cellAt.cls = RX4 ∧ yX4_cellAt.cls ≠ "java/lang/invoke/MethodHandle" ∧ yX4_cellAt.cls ≠ "java/lang/invoke/VarHandle" ∧ (parseMethodDescriptor yX4_cellAt.desc).map (fun d => d.parameters.length) = some 1 := by decide +kernel
set_option maxHeartbeats 4000000 in
set_option maxRecDepth 100000 in
theorem kX4_cellAt (l : Launch) (g : Gx) (a_s : Nat → Nat) (s : ST) (p1 : Int32) (res : Int32) (hf : fX4_cellAt p1 s = some res) : Met l yX4_cellAt (cdX4_cellAt :: wsL_law) rmX4_cellAt (va_Pc [.ref (a_s 0), .int p1] (RO g (wS g a_s s))) (vp_Si (fun x => x = res)) 0 0 (fun _ => False) := by
  refine Met_roi (cc := cX4_cellAt) (maxL := 2) (by decide) rfl (Nat.le_of_ble_eq_true rfl) ?_
  intro P E Z Mi AR BE ME CO Q C fin hK hP ls hl
  have hl : lv_has ls 2 [(0, .ref (a_s 0)), (1, .int p1)] := hl
  unfold fX4_cellAt at hf
  refine lv_iload_n C.1 C.2.1 (dk_at dkX4_cellAt 0 rfl) rfl (lv_at hl 1 rfl) ?_
  refine lv_if_lt (tgt := 10) C.1 C.2.1 (dk_at dkX4_cellAt 1 rfl) (by decide) (fun c1 => ?_) (fun c1 => ?_)
  · have hf := (if_pos c1).symm.trans hf
    refine lv_iconst (v := 0) C.1 C.2.1 (dk_at dkX4_cellAt 5 rfl) (by decide) ?_
    refine lv_goto (tgt := 20) C.1 C.2.1 (dk_at dkX4_cellAt 6 rfl) (by decide) ?_
    cases hf
    exact fin _ _ _ (dk_at dkX4_cellAt 11 rfl) rfl
  · have hf := (if_neg c1).symm.trans hf
    refine lv_iload_n C.1 C.2.1 (dk_at dkX4_cellAt 2 rfl) rfl (lv_at hl 1 rfl) ?_
    refine lv_bipush (v := 40) C.1 C.2.1 (dk_at dkX4_cellAt 3 rfl) (by decide) ?_
    refine lv_icmp_lt (tgt := 14) C.1 C.2.1 (dk_at dkX4_cellAt 4 rfl) (by decide) (fun c2 => ?_) (fun c2 => ?_)
    · have hf := (if_pos c2).symm.trans hf
      refine lv_aload_n C.1 C.2.1 (dk_at dkX4_cellAt 7 rfl) rfl (lv_at hl 0 rfl) ?_
      refine r_get (v := .ref (a_s 1)) C hK hP (fun w h => List.mem_cons_of_mem _ (inlX4 w h)) 0 rfl rfl 3 (by decide) (List.mem_cons_of_mem _ (inr3 _ (List.mem_of_getElem? (i := 23) rfl))) rfl (dk_at dkX4_cellAt 8 rfl) ?_
      refine lv_iload_n C.1 C.2.1 (dk_at dkX4_cellAt 9 rfl) rfl (lv_at hl 1 rfl) ?_
      obtain ⟨h3, hf⟩ := gd_at hf
      refine r_iald (k := p1.toNatClampNeg) (f := (sCe s)) C hK hP 1 rfl h3 rfl (dk_at dkX4_cellAt 10 rfl) ?_
      refine lv_topi (fun x4 ex4 => ?_)
      have hf := nm_at ex4 hf
      cases hf
      exact fin _ _ _ (dk_at dkX4_cellAt 11 rfl) rfl
    · have hf := (if_neg c2).symm.trans hf
      refine lv_iconst (v := 0) C.1 C.2.1 (dk_at dkX4_cellAt 5 rfl) (by decide) ?_
      refine lv_goto (tgt := 20) C.1 C.2.1 (dk_at dkX4_cellAt 6 rfl) (by decide) ?_
      cases hf
      exact fin _ _ _ (dk_at dkX4_cellAt 11 rfl) rfl
