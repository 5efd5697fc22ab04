-- X6.isSaying
abbrev tbX6_isSaying : List (Nat × Instr × Nat) := [(0, .iload_n 1, 1), (1, .i2l, 1), (2, .lconst 0, 1), (3, .aload_n 0, 1), (4, .getfield 7, 3), (7, .bipush 43, 2), (9, .iaload, 1), (10, .iconst 1, 1), (11, .isub, 1), (12, .i2l, 1), (13, .invokestatic 83, 3), (16, .ireturn, 1)]
theorem dkX6_isSaying : dk cX6_isSaying tbX6_isSaying := dk_of (by decide +kernel)
abbrev cdX6_isSaying : Cond := Cond.code yX6_isSaying cX6_isSaying 2 (some .boolean)
abbrev rmX6_isSaying : Room := { frames := 1, cells := 0, slots := 0, locals := 25 }
theorem mwX6_isSaying : Cond.instanceMethod yX6_isSaying ∈ wsL_law ∧ Cond.selects RX6 yX6_isSaying yX6_isSaying ∈ wsL_law ∧ Cond.initialized RX6 ∈ wsL_law ∧ cdX6_isSaying ∈ wsL_law := ⟨inr18 _ (List.mem_of_getElem? (i := 11) rfl), inr18 _ (List.mem_of_getElem? (i := 12) rfl), inr1 _ (List.mem_of_getElem? (i := 5) rfl), inr18 _ (List.mem_of_getElem? (i := 13) rfl)⟩
theorem hdX6_isSaying : yX6_isSaying.cls = RX6 ∧ yX6_isSaying.cls ≠ "java/lang/invoke/MethodHandle" ∧ yX6_isSaying.cls ≠ "java/lang/invoke/VarHandle" ∧ (parseMethodDescriptor yX6_isSaying.desc).map (fun d => d.parameters.length) = some 1 := by decide +kernel
set_option maxHeartbeats 4000000 in
set_option maxRecDepth 100000 in
theorem kX6_isSaying (l : Launch) (g : Gx) (a_m : Nat → Nat) (st : AI) (now : AI) (isKept : AI) (hearers : Int32) (draft : AI) (dHearers : Int32) (dWalls : Int32) (toldWinds : Int32) (tape : AI) (taped : Int32) (pos : Int32) (frm : Int32) (sort : Int32) (value : Int32) (fault : Int32) (wrongAt : Int32) (landed : AI) (landedIn : AI) (stepped : AI) (isThere : AI) (isAt : AI) (isNext : AI) (landSum : Int64) (heardSum : Int64) (allWays : Int64) (ways : AI) (drawn : AI) (lanes : AI) (sizes : AI) (cells : AI) (torn : Int32) (before : AI) (p1 : Int32) (res : Int32) (hf : fX6_isSaying p1 st = some res) : Met l yX6_isSaying (cdX6_isSaying :: wsL_law) rmX6_isSaying (va_Pc [.ref (a_m 0), .int p1] (RO g (wM g a_m st now isKept hearers draft dHearers dWalls toldWinds tape taped pos frm sort value fault wrongAt landed landedIn stepped isThere isAt isNext landSum heardSum allWays ways drawn lanes sizes cells torn before))) (vp_Si (fun x => x = res)) 0 0 (fun _ => False) := by
  refine Met_roz (cc := cX6_isSaying) (maxL := 2) (by decide) rfl (Nat.le_of_ble_eq_true rfl) ?_
  intro P E Z Mi AR BE ME CO Q C fin hK hP ls hl
  have hl : lv_has ls 2 [(0, .ref (a_m 0)), (1, .int p1)] := hl
  unfold fX6_isSaying at hf
  refine lv_iload_n C.1 C.2.1 (dk_at dkX6_isSaying 0 rfl) rfl (lv_at hl 1 rfl) ?_
  refine lv_i2l C.1 C.2.1 (dk_at dkX6_isSaying 1 rfl) rfl ?_
  refine lv_topl (fun x1 ex1 => ?_)
  have hf := nm_at ex1 hf
  refine lv_lconst (v := 0) C.1 C.2.1 (dk_at dkX6_isSaying 2 rfl) (by decide) ?_
  refine lv_aload_n C.1 C.2.1 (dk_at dkX6_isSaying 3 rfl) rfl (lv_at hl 0 rfl) ?_
  refine r_get (v := .ref (a_m 1)) C hK hP (fun w h => List.mem_cons_of_mem _ (inlX6 w h)) 0 rfl rfl 0 (by decide) (List.mem_cons_of_mem _ (inr4 _ (List.mem_of_getElem? (i := 4) rfl))) rfl (dk_at dkX6_isSaying 4 rfl) ?_
  refine lv_bipush (v := 43) C.1 C.2.1 (dk_at dkX6_isSaying 5 rfl) (by decide) ?_
  refine r_iald (k := 43) (f := st) C hK hP 1 rfl (in_c (by decide)) (by decide) (dk_at dkX6_isSaying 6 rfl) ?_
  refine lv_topi (fun x2 ex2 => ?_)
  have hf := nm_at ex2 hf
  refine lv_iconst (v := 1) C.1 C.2.1 (dk_at dkX6_isSaying 7 rfl) (by decide) ?_
  refine lv_isub C.1 C.2.1 (dk_at dkX6_isSaying 8 rfl) ?_
  refine lv_i2l C.1 C.2.1 (dk_at dkX6_isSaying 9 rfl) rfl ?_
  refine lv_topl (fun x3 ex3 => ?_)
  have hf := nm_at ex3 hf
  obtain ⟨r4, hq5, hf⟩ := bd1_at hf
  refine r_st (As := [.long x1, .long 0, .long x3]) (rest := []) C (kX6_in l x1 0 x3 r4 hq5) (cwS0 C (inr5 _ (List.mem_of_getElem? (i := 21) rfl)) mwX6_in hdX6_in ⟨Nat.le_of_ble_eq_true rfl, Nat.le_of_ble_eq_true rfl⟩) rfl hl.1 rfl (Nat.le_of_ble_eq_true rfl) ⟨Nat.zero_le _, Nat.zero_le _⟩ (dk_at dkX6_isSaying 10 rfl) ?_
  obtain ⟨h6, hf⟩ := gb_at hf
  cases hf
  exact fin _ _ _ (dk_at dkX6_isSaying 11 rfl) h6 rfl
-- X6.isHearer
abbrev tbX6_isHearer : List (Nat × Instr × Nat) := [(0, .iload_n 1, 1), (1, .i2l, 1), (2, .lconst 0, 1), (3, .aload_n 0, 1), (4, .getfield 78, 3), (7, .iconst 1, 1), (8, .isub, 1), (9, .i2l, 1), (10, .invokestatic 83, 3), (13, .ireturn, 1)]
theorem dkX6_isHearer : dk cX6_isHearer tbX6_isHearer := dk_of (by decide +kernel)
abbrev cdX6_isHearer : Cond := Cond.code yX6_isHearer cX6_isHearer 2 (some .boolean)
abbrev rmX6_isHearer : Room := { frames := 1, cells := 0, slots := 0, locals := 25 }
theorem mwX6_isHearer : Cond.instanceMethod yX6_isHearer ∈ wsL_law ∧ Cond.selects RX6 yX6_isHearer yX6_isHearer ∈ wsL_law ∧ Cond.initialized RX6 ∈ wsL_law ∧ cdX6_isHearer ∈ wsL_law := ⟨inr19 _ (List.mem_of_getElem? (i := 12) rfl), inr19 _ (List.mem_of_getElem? (i := 13) rfl), inr1 _ (List.mem_of_getElem? (i := 5) rfl), inr19 _ (List.mem_of_getElem? (i := 14) rfl)⟩
theorem hdX6_isHearer : yX6_isHearer.cls = RX6 ∧ yX6_isHearer.cls ≠ "java/lang/invoke/MethodHandle" ∧ yX6_isHearer.cls ≠ "java/lang/invoke/VarHandle" ∧ (parseMethodDescriptor yX6_isHearer.desc).map (fun d => d.parameters.length) = some 1 := by decide +kernel
set_option maxHeartbeats 4000000 in
set_option maxRecDepth 100000 in
theorem kX6_isHearer (l : Launch) (g : Gx) (a_m : Nat → Nat) (st : AI) (now : AI) (isKept : AI) (hearers : Int32) (draft : AI) (dHearers : Int32) (dWalls : Int32) (toldWinds : Int32) (tape : AI) (taped : Int32) (pos : Int32) (frm : Int32) (sort : Int32) (value : Int32) (fault : Int32) (wrongAt : Int32) (landed : AI) (landedIn : AI) (stepped : AI) (isThere : AI) (isAt : AI) (isNext : AI) (landSum : Int64) (heardSum : Int64) (allWays : Int64) (ways : AI) (drawn : AI) (lanes : AI) (sizes : AI) (cells : AI) (torn : Int32) (before : AI) (p1 : Int32) (res : Int32) (hf : fX6_isHearer p1 hearers = some res) : Met l yX6_isHearer (cdX6_isHearer :: wsL_law) rmX6_isHearer (va_Pc [.ref (a_m 0), .int p1] (RO g (wM g a_m st now isKept hearers draft dHearers dWalls toldWinds tape taped pos frm sort value fault wrongAt landed landedIn stepped isThere isAt isNext landSum heardSum allWays ways drawn lanes sizes cells torn before))) (vp_Si (fun x => x = res)) 0 0 (fun _ => False) := by
  refine Met_roz (cc := cX6_isHearer) (maxL := 2) (by decide) rfl (Nat.le_of_ble_eq_true rfl) ?_
  intro P E Z Mi AR BE ME CO Q C fin hK hP ls hl
  have hl : lv_has ls 2 [(0, .ref (a_m 0)), (1, .int p1)] := hl
  unfold fX6_isHearer at hf
  refine lv_iload_n C.1 C.2.1 (dk_at dkX6_isHearer 0 rfl) rfl (lv_at hl 1 rfl) ?_
  refine lv_i2l C.1 C.2.1 (dk_at dkX6_isHearer 1 rfl) rfl ?_
  refine lv_topl (fun x1 ex1 => ?_)
  have hf := nm_at ex1 hf
  refine lv_lconst (v := 0) C.1 C.2.1 (dk_at dkX6_isHearer 2 rfl) (by decide) ?_
  refine lv_aload_n C.1 C.2.1 (dk_at dkX6_isHearer 3 rfl) rfl (lv_at hl 0 rfl) ?_
  refine r_get (v := .int hearers) C hK hP (fun w h => List.mem_cons_of_mem _ (inlX6 w h)) 0 rfl rfl 3 (by decide) (List.mem_cons_of_mem _ (inr5 _ (List.mem_of_getElem? (i := 8) rfl))) rfl (dk_at dkX6_isHearer 4 rfl) ?_
  refine lv_iconst (v := 1) C.1 C.2.1 (dk_at dkX6_isHearer 5 rfl) (by decide) ?_
  refine lv_isub C.1 C.2.1 (dk_at dkX6_isHearer 6 rfl) ?_
  refine lv_i2l C.1 C.2.1 (dk_at dkX6_isHearer 7 rfl) rfl ?_
  refine lv_topl (fun x2 ex2 => ?_)
  have hf := nm_at ex2 hf
  obtain ⟨r3, hq4, hf⟩ := bd1_at hf
  refine r_st (As := [.long x1, .long 0, .long x2]) (rest := []) C (kX6_in l x1 0 x2 r3 hq4) (cwS0 C (inr5 _ (List.mem_of_getElem? (i := 21) rfl)) mwX6_in hdX6_in ⟨Nat.le_of_ble_eq_true rfl, Nat.le_of_ble_eq_true rfl⟩) rfl hl.1 rfl (Nat.le_of_ble_eq_true rfl) ⟨Nat.zero_le _, Nat.zero_le _⟩ (dk_at dkX6_isHearer 8 rfl) ?_
  obtain ⟨h5, hf⟩ := gb_at hf
  cases hf
  exact fin _ _ _ (dk_at dkX6_isHearer 9 rfl) h5 rfl
-- X6.isPart
abbrev tbX6_isPart : List (Nat × Instr × Nat) := [(0, .iload_n 0, 1), (1, .i2l, 1), (2, .lconst 0, 1), (3, .lconst 1, 1), (4, .invokestatic 83, 3), (7, .ireturn, 1)]
theorem dkX6_isPart : dk cX6_isPart tbX6_isPart := dk_of (by decide +kernel)
abbrev cdX6_isPart : Cond := Cond.code yX6_isPart cX6_isPart 1 (some .boolean)
abbrev rmX6_isPart : Room := { frames := 1, cells := 0, slots := 0, locals := 25 }
theorem mwX6_isPart : Cond.static yX6_isPart ∈ wsL_law ∧ Cond.initialized yX6_isPart.cls ∈ wsL_law ∧ cdX6_isPart ∈ wsL_law := ⟨inr26 _ (List.mem_of_getElem? (i := 23) rfl), inr1 _ (List.mem_of_getElem? (i := 5) rfl), inr27 _ (List.mem_of_getElem? (i := 0) rfl)⟩
theorem hdX6_isPart : yX6_isPart.cls ≠ "java/lang/invoke/MethodHandle" ∧ yX6_isPart.cls ≠ "java/lang/invoke/VarHandle" ∧ (parseMethodDescriptor yX6_isPart.desc).map (fun d => d.parameters.length) = some 1 := by decide +kernel
set_option maxHeartbeats 4000000 in
set_option maxRecDepth 100000 in
theorem kX6_isPart (l : Launch) (p1 : Int32) (res : Int32) (hf : fX6_isPart p1 = some res) : Met l yX6_isPart (cdX6_isPart :: wsL_law) rmX6_isPart (va_Pc [.int p1] (fun _ => True)) (vp_Si (fun x => x = res)) 0 0 (fun _ => False) := by
  refine Met_stz (cc := cX6_isPart) (maxL := 1) (by decide) rfl (Nat.le_of_ble_eq_true rfl) ?_
  intro P E Z Mi AR BE ME CO Q C fin ls hl
  have hl : lv_has ls 1 [(0, .int p1)] := hl
  unfold fX6_isPart at hf
  refine lv_iload_n C.1 C.2.1 (dk_at dkX6_isPart 0 rfl) rfl (lv_at hl 0 rfl) ?_
  refine lv_i2l C.1 C.2.1 (dk_at dkX6_isPart 1 rfl) rfl ?_
  refine lv_topl (fun x1 ex1 => ?_)
  have hf := nm_at ex1 hf
  refine lv_lconst (v := 0) C.1 C.2.1 (dk_at dkX6_isPart 2 rfl) (by decide) ?_
  refine lv_lconst (v := 1) C.1 C.2.1 (dk_at dkX6_isPart 3 rfl) (by decide) ?_
  obtain ⟨r2, hq3, hf⟩ := bd1_at hf
  refine r_st (As := [.long x1, .long 0, .long 1]) (rest := []) C (kX6_in l x1 0 1 r2 hq3) (cwS0 C (inr5 _ (List.mem_of_getElem? (i := 21) rfl)) mwX6_in hdX6_in ⟨Nat.le_of_ble_eq_true rfl, Nat.le_of_ble_eq_true rfl⟩) rfl hl.1 rfl (Nat.le_of_ble_eq_true rfl) ⟨Nat.zero_le _, Nat.zero_le _⟩ (dk_at dkX6_isPart 4 rfl) ?_
  obtain ⟨h4, hf⟩ := gb_at hf
  cases hf
  exact fin _ _ _ (dk_at dkX6_isPart 5 rfl) h4 rfl
-- X6.starts
abbrev tbX6_starts : List (Nat × Instr × Nat) := [(0, .iconst 0, 1), (1, .istore_n 1, 1), (2, .iload_n 1, 1), (3, .bipush 61, 2), (5, .if_icmp .ge 21, 3), (8, .aload_n 0, 1), (9, .getfield 13, 3), (12, .iload_n 1, 1), (13, .aload_n 0, 1), (14, .getfield 7, 3), (17, .iload_n 1, 1), (18, .iaload, 1), (19, .iastore, 1), (20, .iinc 1 1, 3), (23, .goto (-21), 3), (26, .return_, 1)]
theorem dkX6_starts : dk cX6_starts tbX6_starts := dk_of (by decide +kernel)
abbrev cdX6_starts : Cond := Cond.code yX6_starts cX6_starts 2 none
abbrev rmX6_starts : Room := { frames := 0, cells := 0, slots := 0, locals := 0 }
theorem mwX6_starts : Cond.instanceMethod yX6_starts ∈ wsL_law ∧ Cond.selects RX6 yX6_starts yX6_starts ∈ wsL_law ∧ Cond.initialized RX6 ∈ wsL_law ∧ cdX6_starts ∈ wsL_law := ⟨inr17 _ (List.mem_of_getElem? (i := 4) rfl), inr17 _ (List.mem_of_getElem? (i := 5) rfl), inr1 _ (List.mem_of_getElem? (i := 5) rfl), inr17 _ (List.mem_of_getElem? (i := 6) rfl)⟩
theorem hdX6_starts : yX6_starts.cls = RX6 ∧ yX6_starts.cls ≠ "java/lang/invoke/MethodHandle" ∧ yX6_starts.cls ≠ "java/lang/invoke/VarHandle" ∧ (parseMethodDescriptor yX6_starts.desc).map (fun d => d.parameters.length) = some 0 := by decide +kernel
set_option maxHeartbeats 4000000 in
set_option maxRecDepth 100000 in
theorem kX6_starts (l : Launch) (g : Gx) (sz : Nat) (a_m : Nat → Nat) (st : AI) (now : AI) (isKept : AI) (hearers : Int32) (draft : AI) (dHearers : Int32) (dWalls : Int32) (toldWinds : Int32) (tape : AI) (taped : Int32) (pos : Int32) (frm : Int32) (sort : Int32) (value : Int32) (fault : Int32) (wrongAt : Int32) (landed : AI) (landedIn : AI) (stepped : AI) (isThere : AI) (isAt : AI) (isNext : AI) (landSum : Int64) (heardSum : Int64) (allWays : Int64) (ways : AI) (drawn : AI) (lanes : AI) (sizes : AI) (cells : AI) (torn : Int32) (before : AI) (now_o : AI) (hf : fX6_starts st now = some now_o) : Met l yX6_starts (cdX6_starts :: wsL_law) rmX6_starts (va_Pc [.ref (a_m 0)] (RWp g sz (wM g a_m st now isKept hearers draft dHearers dWalls toldWinds tape taped pos frm sort value fault wrongAt landed landedIn stepped isThere isAt isNext landSum heardSum allWays ways drawn lanes sizes cells torn before))) (va_Qv (fun _ : Unit => True) (fun _ => RWq g (va_A (wM g a_m st now isKept hearers draft dHearers dWalls toldWinds tape taped pos frm sort value fault wrongAt landed landedIn stepped isThere isAt isNext landSum heardSum allWays ways drawn lanes sizes cells torn before) sz) (wM g a_m st now_o isKept hearers draft dHearers dWalls toldWinds tape taped pos frm sort value fault wrongAt landed landedIn stepped isThere isAt isNext landSum heardSum allWays ways drawn lanes sizes cells torn before)) (va_A (wM g a_m st now isKept hearers draft dHearers dWalls toldWinds tape taped pos frm sort value fault wrongAt landed landedIn stepped isThere isAt isNext landSum heardSum allWays ways drawn lanes sizes cells torn before) sz)) 0 0 (va_A (wM g a_m st now isKept hearers draft dHearers dWalls toldWinds tape taped pos frm sort value fault wrongAt landed landedIn stepped isThere isAt isNext landSum heardSum allWays ways drawn lanes sizes cells torn before) sz) := by
  refine Met_rwv (cc := cX6_starts) (maxL := 2) (by decide) rfl (Nat.le_of_ble_eq_true rfl) ?_
  intro P E Z Mi AR BE ME CO A Q C hK hA fin w ls hl
  have hl : lv_has ls 2 [(0, .ref (a_m 0))] := hl
  unfold fX6_starts at hf
  refine lv_iconst (v := 0) C.1 C.2.1 (dk_at dkX6_starts 0 rfl) (by decide) ?_
  refine lv_istore_n (lv' := [(1, .int 0), (0, .ref (a_m 0))]) C.1 C.2.1 (dk_at dkX6_starts 1 rfl) rfl hl (by decide) rfl (fun ls hl => ?_)
  have L3 : ∀ (K : Int32 → AI → Option (AI)), (∀ (v1 : Int32) (now_2 : AI) (H : Heap) (locs : List Loc) (ls : Array Slot), Wd g A Z.heap (wM g a_m st now_2 isKept hearers draft dHearers dWalls toldWinds tape taped pos frm sort value fault wrongAt landed landedIn stepped isThere isAt isNext landSum heardSum allWays ways drawn lanes sizes cells torn before) H locs → lv_has ls 2 [] → K v1 now_2 = some now_o → W P l E rmX6_starts Z Mi AR BE ME CO H locs 0 0 Q (F0 Mi 26 ls [])) → ∀ (n : Nat), ∀ (v1 : Int32) (now_2 : AI) (H : Heap) (locs : List Loc) (ls : Array Slot), Wd g A Z.heap (wM g a_m st now_2 isKept hearers draft dHearers dWalls toldWinds tape taped pos frm sort value fault wrongAt landed landedIn stepped isThere isAt isNext landSum heardSum allWays ways drawn lanes sizes cells torn before) H locs → lv_has ls 2 [(1, .int v1), (0, .ref (a_m 0))] → fX6_starts_L2 st K n v1 now_2 = some now_o → W P l E rmX6_starts Z Mi AR BE ME CO H locs 0 0 Q (F0 Mi 2 ls []) := by
    intro K hKe n
    induction n with
    | zero => intro v1 now_2 H locs ls w hl hf; cases hf
    | succ n ih =>
      intro v1 now_2 H locs ls w hl hf
      rw [fX6_starts_L2] at hf
      refine lv_iload_n C.1 C.2.1 (dk_at dkX6_starts 2 rfl) rfl (lv_at hl 0 rfl) ?_
      refine lv_bipush (v := 61) C.1 C.2.1 (dk_at dkX6_starts 3 rfl) (by decide) ?_
      refine lv_icmp_ge (tgt := 26) C.1 C.2.1 (dk_at dkX6_starts 4 rfl) (by decide) (fun c4 => ?_) (fun c4 => ?_)
      · have hf := (if_pos c4).symm.trans hf
        exact hKe v1 now_2 _ _ _ w (lv_sub hl [] rfl) hf
      · have hf := (if_neg c4).symm.trans hf
        refine lv_aload_n C.1 C.2.1 (dk_at dkX6_starts 5 rfl) rfl (lv_at hl 1 rfl) ?_
        refine r_get (v := .ref (a_m 2)) C hK w.1 (fun w h => List.mem_cons_of_mem _ (inlX6 w h)) 0 rfl rfl 1 (by decide) (List.mem_cons_of_mem _ (inr4 _ (List.mem_of_getElem? (i := 5) rfl))) rfl (dk_at dkX6_starts 6 rfl) ?_
        refine lv_iload_n C.1 C.2.1 (dk_at dkX6_starts 7 rfl) rfl (lv_at hl 0 rfl) ?_
        refine lv_aload_n C.1 C.2.1 (dk_at dkX6_starts 8 rfl) rfl (lv_at hl 1 rfl) ?_
        refine r_get (v := .ref (a_m 1)) C hK w.1 (fun w h => List.mem_cons_of_mem _ (inlX6 w h)) 0 rfl rfl 0 (by decide) (List.mem_cons_of_mem _ (inr4 _ (List.mem_of_getElem? (i := 4) rfl))) rfl (dk_at dkX6_starts 9 rfl) ?_
        refine lv_iload_n C.1 C.2.1 (dk_at dkX6_starts 10 rfl) rfl (lv_at hl 0 rfl) ?_
        obtain ⟨h5, hf⟩ := gd_at hf
        refine r_iald (k := v1.toNatClampNeg) (f := st) C hK w.1 1 rfl h5 rfl (dk_at dkX6_starts 11 rfl) ?_
        refine lv_topi (fun x6 ex6 => ?_)
        have hf := nm_at ex6 hf
        obtain ⟨h7, hf⟩ := gd_at hf
        refine r_iast (k := v1.toNatClampNeg) (f := now_2) C hK w 2 rfl h7 rfl (dk_at dkX6_starts 12 rfl) (fun H locs w => ?_)
        obtain ⟨now_8, enow_8⟩ : ∃ z : AI, z = upd now_2 v1.toNatClampNeg x6 := ⟨_, rfl⟩
        have hf := nm_at enow_8 hf
        have w : Wd g A Z.heap (wM g a_m st now_8 isKept hearers draft dHearers dWalls toldWinds tape taped pos frm sort value fault wrongAt landed landedIn stepped isThere isAt isNext landSum heardSum allWays ways drawn lanes sizes cells torn before) H locs := by rw [enow_8]; exact w
        obtain ⟨x9, ex9⟩ : ∃ z : Int32, z = v1 + 1 := ⟨_, rfl⟩
        have hf := nm_at ex9 hf
        refine lv_iinc (v := x9) (lv' := [(1, .int x9), (0, .ref (a_m 0))]) C.1 C.2.1 (dk_at dkX6_starts 13 rfl) hl (k := 0) rfl (by rw [ex9]; rfl) (by decide) rfl (fun ls hl => ?_)
        refine lv_goto (tgt := 2) C.1 C.2.1 (dk_at dkX6_starts 14 rfl) (by decide) ?_
        exact ih x9 now_8 _ _ _ w (lv_sub hl [0, 1] rfl) hf
  refine L3 _ ?_ 4096 0 now _ _ _ w (lv_sub hl [0, 1] rfl) hf
  clear hf
  intro v1 now_2 H locs ls w hl hf
  cases hf
  exact fin _ _ _ _ (dk_at dkX6_starts 15 rfl) w
-- X6.of
abbrev tbX6_of : List (Nat × Instr × Nat) := [(0, .aload_n 0, 1), (1, .getfield 13, 3), (4, .bipush 18, 2), (6, .iconst 5, 1), (7, .iload_n 1, 1), (8, .imul, 1), (9, .iadd, 1), (10, .iload_n 2, 1), (11, .iadd, 1), (12, .iaload, 1), (13, .ireturn, 1)]
theorem dkX6_of : dk cX6_of tbX6_of := dk_of (by decide +kernel)
abbrev cdX6_of : Cond := Cond.code yX6_of cX6_of 3 (some .int)
abbrev rmX6_of : Room := { frames := 0, cells := 0, slots := 0, locals := 0 }
theorem mwX6_of : Cond.instanceMethod yX6_of ∈ wsL_law ∧ Cond.selects RX6 yX6_of yX6_of ∈ wsL_law ∧ Cond.initialized RX6 ∈ wsL_law ∧ cdX6_of ∈ wsL_law := ⟨inr18 _ (List.mem_of_getElem? (i := 15) rfl), inr18 _ (List.mem_of_getElem? (i := 16) rfl), inr1 _ (List.mem_of_getElem? (i := 5) rfl), inr18 _ (List.mem_of_getElem? (i := 17) rfl)⟩
theorem hdX6_of : yX6_of.cls = RX6 ∧ yX6_of.cls ≠ "java/lang/invoke/MethodHandle" ∧ yX6_of.cls ≠ "java/lang/invoke/VarHandle" ∧ (parseMethodDescriptor yX6_of.desc).map (fun d => d.parameters.length) = some 2 := by decide +kernel
set_option maxHeartbeats 4000000 in
set_option maxRecDepth 100000 in
theorem kX6_of (l : Launch) (g : Gx) (a_m : Nat → Nat) (st : AI) (now : AI) (isKept : AI) (hearers : Int32) (draft : AI) (dHearers : Int32) (dWalls : Int32) (toldWinds : Int32) (tape : AI) (taped : Int32) (pos : Int32) (frm : Int32) (sort : Int32) (value : Int32) (fault : Int32) (wrongAt : Int32) (landed : AI) (landedIn : AI) (stepped : AI) (isThere : AI) (isAt : AI) (isNext : AI) (landSum : Int64) (heardSum : Int64) (allWays : Int64) (ways : AI) (drawn : AI) (lanes : AI) (sizes : AI) (cells : AI) (torn : Int32) (before : AI) (p1 : Int32) (p2 : Int32) (res : Int32) (hf : fX6_of p1 p2 now = some res) : Met l yX6_of (cdX6_of :: wsL_law) rmX6_of (va_Pc [.ref (a_m 0), .int p1, .int p2] (RO g (wM g a_m st now isKept hearers draft dHearers dWalls toldWinds tape taped pos frm sort value fault wrongAt landed landedIn stepped isThere isAt isNext landSum heardSum allWays ways drawn lanes sizes cells torn before))) (vp_Si (fun x => x = res)) 0 0 (fun _ => False) := by
  refine Met_roi (cc := cX6_of) (maxL := 3) (by decide) rfl (Nat.le_of_ble_eq_true rfl) ?_
  intro P E Z Mi AR BE ME CO Q C fin hK hP ls hl
  have hl : lv_has ls 3 [(0, .ref (a_m 0)), (1, .int p1), (2, .int p2)] := hl
  unfold fX6_of at hf
  refine lv_aload_n C.1 C.2.1 (dk_at dkX6_of 0 rfl) rfl (lv_at hl 0 rfl) ?_
  refine r_get (v := .ref (a_m 2)) C hK hP (fun w h => List.mem_cons_of_mem _ (inlX6 w h)) 0 rfl rfl 1 (by decide) (List.mem_cons_of_mem _ (inr4 _ (List.mem_of_getElem? (i := 5) rfl))) rfl (dk_at dkX6_of 1 rfl) ?_
  refine lv_bipush (v := 18) C.1 C.2.1 (dk_at dkX6_of 2 rfl) (by decide) ?_
  refine lv_iconst (v := 5) C.1 C.2.1 (dk_at dkX6_of 3 rfl) (by decide) ?_
  refine lv_iload_n C.1 C.2.1 (dk_at dkX6_of 4 rfl) rfl (lv_at hl 1 rfl) ?_
  refine lv_imul C.1 C.2.1 (dk_at dkX6_of 5 rfl) ?_
  refine lv_iadd C.1 C.2.1 (dk_at dkX6_of 6 rfl) ?_
  refine lv_topi (fun x1 ex1 => ?_)
  have hf := nm_at ex1 hf
  refine lv_iload_n C.1 C.2.1 (dk_at dkX6_of 7 rfl) rfl (lv_at hl 2 rfl) ?_
  refine lv_iadd C.1 C.2.1 (dk_at dkX6_of 8 rfl) ?_
  refine lv_topi (fun x2 ex2 => ?_)
  have hf := nm_at ex2 hf
  obtain ⟨h3, hf⟩ := gd_at hf
  refine r_iald (k := x2.toNatClampNeg) (f := now) C hK hP 2 rfl h3 rfl (dk_at dkX6_of 9 rfl) ?_
  refine lv_topi (fun x4 ex4 => ?_)
  have hf := nm_at ex4 hf
  cases hf
  exact fin _ _ _ (dk_at dkX6_of 10 rfl) rfl
-- X6.becomesOf
abbrev tbX6_becomesOf : List (Nat × Instr × Nat) := [(0, .aload_n 0, 1), (1, .getfield 13, 3), (4, .bipush 18, 2), (6, .iconst 5, 1), (7, .iload_n 1, 1), (8, .imul, 1), (9, .iadd, 1), (10, .iload_n 2, 1), (11, .iadd, 1), (12, .iload_n 3, 1), (13, .iastore, 1), (14, .return_, 1)]
theorem dkX6_becomesOf : dk cX6_becomesOf tbX6_becomesOf := dk_of (by decide +kernel)
abbrev cdX6_becomesOf : Cond := Cond.code yX6_becomesOf cX6_becomesOf 4 none
abbrev rmX6_becomesOf : Room := { frames := 0, cells := 0, slots := 0, locals := 0 }
theorem mwX6_becomesOf : Cond.instanceMethod yX6_becomesOf ∈ wsL_law ∧ Cond.selects RX6 yX6_becomesOf yX6_becomesOf ∈ wsL_law ∧ Cond.initialized RX6 ∈ wsL_law ∧ cdX6_becomesOf ∈ wsL_law := ⟨inr30 _ (List.mem_of_getElem? (i := 1) rfl), inr30 _ (List.mem_of_getElem? (i := 2) rfl), inr1 _ (List.mem_of_getElem? (i := 5) rfl), inr30 _ (List.mem_of_getElem? (i := 3) rfl)⟩
theorem hdX6_becomesOf : yX6_becomesOf.cls = RX6 ∧ yX6_becomesOf.cls ≠ "java/lang/invoke/MethodHandle" ∧ yX6_becomesOf.cls ≠ "java/lang/invoke/VarHandle" ∧ (parseMethodDescriptor yX6_becomesOf.desc).map (fun d => d.parameters.length) = some 3 := by decide +kernel
set_option maxHeartbeats 4000000 in
set_option maxRecDepth 100000 in
theorem kX6_becomesOf (l : Launch) (g : Gx) (sz : Nat) (a_m : Nat → Nat) (st : AI) (now : AI) (isKept : AI) (hearers : Int32) (draft : AI) (dHearers : Int32) (dWalls : Int32) (toldWinds : Int32) (tape : AI) (taped : Int32) (pos : Int32) (frm : Int32) (sort : Int32) (value : Int32) (fault : Int32) (wrongAt : Int32) (landed : AI) (landedIn : AI) (stepped : AI) (isThere : AI) (isAt : AI) (isNext : AI) (landSum : Int64) (heardSum : Int64) (allWays : Int64) (ways : AI) (drawn : AI) (lanes : AI) (sizes : AI) (cells : AI) (torn : Int32) (before : AI) (p1 : Int32) (p2 : Int32) (p3 : Int32) (now_o : AI) (hf : fX6_becomesOf p1 p2 p3 now = some now_o) : Met l yX6_becomesOf (cdX6_becomesOf :: wsL_law) rmX6_becomesOf (va_Pc [.ref (a_m 0), .int p1, .int p2, .int p3] (RWp g sz (wM g a_m st now isKept hearers draft dHearers dWalls toldWinds tape taped pos frm sort value fault wrongAt landed landedIn stepped isThere isAt isNext landSum heardSum allWays ways drawn lanes sizes cells torn before))) (va_Qv (fun _ : Unit => True) (fun _ => RWq g (va_A (wM g a_m st now isKept hearers draft dHearers dWalls toldWinds tape taped pos frm sort value fault wrongAt landed landedIn stepped isThere isAt isNext landSum heardSum allWays ways drawn lanes sizes cells torn before) sz) (wM g a_m st now_o isKept hearers draft dHearers dWalls toldWinds tape taped pos frm sort value fault wrongAt landed landedIn stepped isThere isAt isNext landSum heardSum allWays ways drawn lanes sizes cells torn before)) (va_A (wM g a_m st now isKept hearers draft dHearers dWalls toldWinds tape taped pos frm sort value fault wrongAt landed landedIn stepped isThere isAt isNext landSum heardSum allWays ways drawn lanes sizes cells torn before) sz)) 0 0 (va_A (wM g a_m st now isKept hearers draft dHearers dWalls toldWinds tape taped pos frm sort value fault wrongAt landed landedIn stepped isThere isAt isNext landSum heardSum allWays ways drawn lanes sizes cells torn before) sz) := by
  refine Met_rwv (cc := cX6_becomesOf) (maxL := 4) (by decide) rfl (Nat.le_of_ble_eq_true rfl) ?_
  intro P E Z Mi AR BE ME CO A Q C hK hA fin w ls hl
  have hl : lv_has ls 4 [(0, .ref (a_m 0)), (1, .int p1), (2, .int p2), (3, .int p3)] := hl
  unfold fX6_becomesOf at hf
  refine lv_aload_n C.1 C.2.1 (dk_at dkX6_becomesOf 0 rfl) rfl (lv_at hl 0 rfl) ?_
  refine r_get (v := .ref (a_m 2)) C hK w.1 (fun w h => List.mem_cons_of_mem _ (inlX6 w h)) 0 rfl rfl 1 (by decide) (List.mem_cons_of_mem _ (inr4 _ (List.mem_of_getElem? (i := 5) rfl))) rfl (dk_at dkX6_becomesOf 1 rfl) ?_
  refine lv_bipush (v := 18) C.1 C.2.1 (dk_at dkX6_becomesOf 2 rfl) (by decide) ?_
  refine lv_iconst (v := 5) C.1 C.2.1 (dk_at dkX6_becomesOf 3 rfl) (by decide) ?_
  refine lv_iload_n C.1 C.2.1 (dk_at dkX6_becomesOf 4 rfl) rfl (lv_at hl 1 rfl) ?_
  refine lv_imul C.1 C.2.1 (dk_at dkX6_becomesOf 5 rfl) ?_
  refine lv_iadd C.1 C.2.1 (dk_at dkX6_becomesOf 6 rfl) ?_
  refine lv_topi (fun x1 ex1 => ?_)
  have hf := nm_at ex1 hf
  refine lv_iload_n C.1 C.2.1 (dk_at dkX6_becomesOf 7 rfl) rfl (lv_at hl 2 rfl) ?_
  refine lv_iadd C.1 C.2.1 (dk_at dkX6_becomesOf 8 rfl) ?_
  refine lv_topi (fun x2 ex2 => ?_)
  have hf := nm_at ex2 hf
  refine lv_iload_n C.1 C.2.1 (dk_at dkX6_becomesOf 9 rfl) rfl (lv_at hl 3 rfl) ?_
  obtain ⟨h3, hf⟩ := gd_at hf
  refine r_iast (k := x2.toNatClampNeg) (f := now) C hK w 2 rfl h3 rfl (dk_at dkX6_becomesOf 10 rfl) (fun H locs w => ?_)
  obtain ⟨now_4, enow_4⟩ : ∃ z : AI, z = upd now x2.toNatClampNeg p3 := ⟨_, rfl⟩
  have hf := nm_at enow_4 hf
  have w : Wd g A Z.heap (wM g a_m st now_4 isKept hearers draft dHearers dWalls toldWinds tape taped pos frm sort value fault wrongAt landed landedIn stepped isThere isAt isNext landSum heardSum allWays ways drawn lanes sizes cells torn before) H locs := by rw [enow_4]; exact w
  cases hf
  exact fin _ _ _ _ (dk_at dkX6_becomesOf 11 rfl) w
-- X6.isWall
abbrev tbX6_isWall : List (Nat × Instr × Nat) := [(0, .aload_n 0, 1), (1, .getfield 13, 3), (4, .iload_n 1, 1), (5, .bipush 10, 2), (7, .idiv, 1), (8, .iaload, 1), (9, .iload_n 1, 1), (10, .bipush 10, 2), (12, .irem, 1), (13, .ishr, 1), (14, .iconst 1, 1), (15, .iand, 1), (16, .iconst 1, 1), (17, .if_icmp .ne 7, 3), (20, .iconst 1, 1), (21, .goto 4, 3), (24, .iconst 0, 1), (25, .ireturn, 1)]
theorem dkX6_isWall : dk cX6_isWall tbX6_isWall := dk_of (by decide +kernel)
abbrev cdX6_isWall : Cond := Cond.code yX6_isWall cX6_isWall 2 (some .boolean)
abbrev rmX6_isWall : Room := { frames := 0, cells := 0, slots := 0, locals := 0 }
theorem mwX6_isWall : Cond.instanceMethod yX6_isWall ∈ wsL_law ∧ Cond.selects RX6 yX6_isWall yX6_isWall ∈ wsL_law ∧ Cond.initialized RX6 ∈ wsL_law ∧ cdX6_isWall ∈ wsL_law := ⟨inr20 _ (List.mem_of_getElem? (i := 3) rfl), inr20 _ (List.mem_of_getElem? (i := 4) rfl), inr1 _ (List.mem_of_getElem? (i := 5) rfl), inr20 _ (List.mem_of_getElem? (i := 5) rfl)⟩
theorem hdX6_isWall : yX6_isWall.cls = RX6 ∧ yX6_isWall.cls ≠ "java/lang/invoke/MethodHandle" ∧ yX6_isWall.cls ≠ "java/lang/invoke/VarHandle" ∧ (parseMethodDescriptor yX6_isWall.desc).map (fun d => d.parameters.length) = some 1 := by decide +kernel
set_option maxHeartbeats 4000000 in
set_option maxRecDepth 100000 in
theorem kX6_isWall (l : Launch) (g : Gx) (a_m : Nat → Nat) (st : AI) (now : AI) (isKept : AI) (hearers : Int32) (draft : AI) (dHearers : Int32) (dWalls : Int32) (toldWinds : Int32) (tape : AI) (taped : Int32) (pos : Int32) (frm : Int32) (sort : Int32) (value : Int32) (fault : Int32) (wrongAt : Int32) (landed : AI) (landedIn : AI) (stepped : AI) (isThere : AI) (isAt : AI) (isNext : AI) (landSum : Int64) (heardSum : Int64) (allWays : Int64) (ways : AI) (drawn : AI) (lanes : AI) (sizes : AI) (cells : AI) (torn : Int32) (before : AI) (p1 : Int32) (res : Int32) (hf : fX6_isWall p1 now = some res) : Met l yX6_isWall (cdX6_isWall :: wsL_law) rmX6_isWall (va_Pc [.ref (a_m 0), .int p1] (RO g (wM g a_m st now isKept hearers draft dHearers dWalls toldWinds tape taped pos frm sort value fault wrongAt landed landedIn stepped isThere isAt isNext landSum heardSum allWays ways drawn lanes sizes cells torn before))) (vp_Si (fun x => x = res)) 0 0 (fun _ => False) := by
  refine Met_roz (cc := cX6_isWall) (maxL := 2) (by decide) rfl (Nat.le_of_ble_eq_true rfl) ?_
  intro P E Z Mi AR BE ME CO Q C fin hK hP ls hl
  have hl : lv_has ls 2 [(0, .ref (a_m 0)), (1, .int p1)] := hl
  unfold fX6_isWall at hf
  refine lv_aload_n C.1 C.2.1 (dk_at dkX6_isWall 0 rfl) rfl (lv_at hl 0 rfl) ?_
  refine r_get (v := .ref (a_m 2)) C hK hP (fun w h => List.mem_cons_of_mem _ (inlX6 w h)) 0 rfl rfl 1 (by decide) (List.mem_cons_of_mem _ (inr4 _ (List.mem_of_getElem? (i := 5) rfl))) rfl (dk_at dkX6_isWall 1 rfl) ?_
  refine lv_iload_n C.1 C.2.1 (dk_at dkX6_isWall 2 rfl) rfl (lv_at hl 1 rfl) ?_
  refine lv_bipush (v := 10) C.1 C.2.1 (dk_at dkX6_isWall 3 rfl) (by decide) ?_
  refine lv_idiv C.1 C.2.1 (dk_at dkX6_isWall 4 rfl) (by decide) ?_
  refine lv_topi (fun x1 ex1 => ?_)
  have hf := nm_at ex1 hf
  obtain ⟨h2, hf⟩ := gd_at hf
  refine r_iald (k := x1.toNatClampNeg) (f := now) C hK hP 2 rfl h2 rfl (dk_at dkX6_isWall 5 rfl) ?_
  refine lv_topi (fun x3 ex3 => ?_)
  have hf := nm_at ex3 hf
  refine lv_iload_n C.1 C.2.1 (dk_at dkX6_isWall 6 rfl) rfl (lv_at hl 1 rfl) ?_
  refine lv_bipush (v := 10) C.1 C.2.1 (dk_at dkX6_isWall 7 rfl) (by decide) ?_
  refine lv_irem C.1 C.2.1 (dk_at dkX6_isWall 8 rfl) (by decide) ?_
  refine lv_ishr C.1 C.2.1 (dk_at dkX6_isWall 9 rfl) ?_
  refine lv_topi (fun x4 ex4 => ?_)
  have hf := nm_at ex4 hf
  refine lv_iconst (v := 1) C.1 C.2.1 (dk_at dkX6_isWall 10 rfl) (by decide) ?_
  refine lv_iand C.1 C.2.1 (dk_at dkX6_isWall 11 rfl) ?_
  refine lv_topi (fun x5 ex5 => ?_)
  have hf := nm_at ex5 hf
  refine lv_iconst (v := 1) C.1 C.2.1 (dk_at dkX6_isWall 12 rfl) (by decide) ?_
  refine lv_icmp_ne (tgt := 24) C.1 C.2.1 (dk_at dkX6_isWall 13 rfl) (by decide) (fun c6 => ?_) (fun c6 => ?_)
  · have hf := (if_neg c6).symm.trans hf
    refine lv_iconst (v := 0) C.1 C.2.1 (dk_at dkX6_isWall 16 rfl) (by decide) ?_
    cases hf
    exact fin _ _ _ (dk_at dkX6_isWall 17 rfl) rfl rfl
  · have hf := (if_pos c6).symm.trans hf
    refine lv_iconst (v := 1) C.1 C.2.1 (dk_at dkX6_isWall 14 rfl) (by decide) ?_
    refine lv_goto (tgt := 25) C.1 C.2.1 (dk_at dkX6_isWall 15 rfl) (by decide) ?_
    cases hf
    exact fin _ _ _ (dk_at dkX6_isWall 17 rfl) rfl rfl
-- X6.bitsOf
abbrev tbX6_bitsOf : List (Nat × Instr × Nat) := [(0, .iconst 0, 1), (1, .istore_n 1, 1), (2, .iconst 0, 1), (3, .istore_n 2, 1), (4, .iload_n 2, 1), (5, .bipush 10, 2), (7, .if_icmp .ge 17, 3), (10, .iload_n 1, 1), (11, .iload_n 0, 1), (12, .iload_n 2, 1), (13, .ishr, 1), (14, .iconst 1, 1), (15, .iand, 1), (16, .iadd, 1), (17, .istore_n 1, 1), (18, .iinc 2 1, 3), (21, .goto (-17), 3), (24, .iload_n 1, 1), (25, .ireturn, 1)]
theorem dkX6_bitsOf : dk cX6_bitsOf tbX6_bitsOf := dk_of (by decide +kernel)
abbrev cdX6_bitsOf : Cond := Cond.code yX6_bitsOf cX6_bitsOf 3 (some .int)
abbrev rmX6_bitsOf : Room := { frames := 0, cells := 0, slots := 0, locals := 0 }
theorem mwX6_bitsOf : Cond.static yX6_bitsOf ∈ wsL_law ∧ Cond.initialized yX6_bitsOf.cls ∈ wsL_law ∧ cdX6_bitsOf ∈ wsL_law := ⟨inr17 _ (List.mem_of_getElem? (i := 15) rfl), inr1 _ (List.mem_of_getElem? (i := 5) rfl), inr17 _ (List.mem_of_getElem? (i := 16) rfl)⟩
theorem hdX6_bitsOf : yX6_bitsOf.cls ≠ "java/lang/invoke/MethodHandle" ∧ yX6_bitsOf.cls ≠ "java/lang/invoke/VarHandle" ∧ (parseMethodDescriptor yX6_bitsOf.desc).map (fun d => d.parameters.length) = some 1 := by decide +kernel
set_option maxHeartbeats 4000000 in
set_option maxRecDepth 100000 in
theorem kX6_bitsOf (l : Launch) (p1 : Int32) (res : Int32) (hf : fX6_bitsOf p1 = some res) : Met l yX6_bitsOf (cdX6_bitsOf :: wsL_law) rmX6_bitsOf (va_Pc [.int p1] (fun _ => True)) (vp_Si (fun x => x = res)) 0 0 (fun _ => False) := by
  refine Met_sti (cc := cX6_bitsOf) (maxL := 3) (by decide) rfl (Nat.le_of_ble_eq_true rfl) ?_
  intro P E Z Mi AR BE ME CO Q C fin ls hl
  have hl : lv_has ls 3 [(0, .int p1)] := hl
  unfold fX6_bitsOf at hf
  refine lv_iconst (v := 0) C.1 C.2.1 (dk_at dkX6_bitsOf 0 rfl) (by decide) ?_
  refine lv_istore_n (lv' := [(1, .int 0), (0, .int p1)]) C.1 C.2.1 (dk_at dkX6_bitsOf 1 rfl) rfl hl (by decide) rfl (fun ls hl => ?_)
  refine lv_iconst (v := 0) C.1 C.2.1 (dk_at dkX6_bitsOf 2 rfl) (by decide) ?_
  refine lv_istore_n (lv' := [(2, .int 0), (1, .int 0), (0, .int p1)]) C.1 C.2.1 (dk_at dkX6_bitsOf 3 rfl) rfl hl (by decide) rfl (fun ls hl => ?_)
  have L3 : ∀ (K : Int32 → Int32 → Option (Int32)), (∀ (v1 : Int32) (v2 : Int32) (ls : Array Slot), lv_has ls 3 [(1, .int v2)] → K v1 v2 = some res → W P l E rmX6_bitsOf Z Mi AR BE ME CO Z.heap [] 0 0 Q (F0 Mi 24 ls [])) → ∀ (n : Nat), ∀ (v1 : Int32) (v2 : Int32) (ls : Array Slot), lv_has ls 3 [(2, .int v1), (1, .int v2), (0, .int p1)] → fX6_bitsOf_L4 p1 K n v1 v2 = some res → W P l E rmX6_bitsOf Z Mi AR BE ME CO Z.heap [] 0 0 Q (F0 Mi 4 ls []) := by
    intro K hKe n
    induction n with
    | zero => intro v1 v2 ls hl hf; cases hf
    | succ n ih =>
      intro v1 v2 ls hl hf
      rw [fX6_bitsOf_L4] at hf
      refine lv_iload_n C.1 C.2.1 (dk_at dkX6_bitsOf 4 rfl) rfl (lv_at hl 0 rfl) ?_
      refine lv_bipush (v := 10) C.1 C.2.1 (dk_at dkX6_bitsOf 5 rfl) (by decide) ?_
      refine lv_icmp_ge (tgt := 24) C.1 C.2.1 (dk_at dkX6_bitsOf 6 rfl) (by decide) (fun c4 => ?_) (fun c4 => ?_)
      · have hf := (if_pos c4).symm.trans hf
        exact hKe v1 v2 _ (lv_sub hl [1] rfl) hf
      · have hf := (if_neg c4).symm.trans hf
        refine lv_iload_n C.1 C.2.1 (dk_at dkX6_bitsOf 7 rfl) rfl (lv_at hl 1 rfl) ?_
        refine lv_iload_n C.1 C.2.1 (dk_at dkX6_bitsOf 8 rfl) rfl (lv_at hl 2 rfl) ?_
        refine lv_iload_n C.1 C.2.1 (dk_at dkX6_bitsOf 9 rfl) rfl (lv_at hl 0 rfl) ?_
        refine lv_ishr C.1 C.2.1 (dk_at dkX6_bitsOf 10 rfl) ?_
        refine lv_topi (fun x5 ex5 => ?_)
        have hf := nm_at ex5 hf
        refine lv_iconst (v := 1) C.1 C.2.1 (dk_at dkX6_bitsOf 11 rfl) (by decide) ?_
        refine lv_iand C.1 C.2.1 (dk_at dkX6_bitsOf 12 rfl) ?_
        refine lv_iadd C.1 C.2.1 (dk_at dkX6_bitsOf 13 rfl) ?_
        refine lv_topi (fun x6 ex6 => ?_)
        have hf := nm_at ex6 hf
        refine lv_istore_n (lv' := [(1, .int x6), (2, .int v1), (0, .int p1)]) C.1 C.2.1 (dk_at dkX6_bitsOf 14 rfl) rfl hl (by decide) rfl (fun ls hl => ?_)
        obtain ⟨x7, ex7⟩ : ∃ z : Int32, z = v1 + 1 := ⟨_, rfl⟩
        have hf := nm_at ex7 hf
        refine lv_iinc (v := x7) (lv' := [(2, .int x7), (1, .int x6), (0, .int p1)]) C.1 C.2.1 (dk_at dkX6_bitsOf 15 rfl) hl (k := 1) rfl (by rw [ex7]; rfl) (by decide) rfl (fun ls hl => ?_)
        refine lv_goto (tgt := 4) C.1 C.2.1 (dk_at dkX6_bitsOf 16 rfl) (by decide) ?_
        exact ih x7 x6 _ (lv_sub hl [0, 1, 2] rfl) hf
  refine L3 _ ?_ 4096 0 0 _ (lv_sub hl [0, 1, 2] rfl) hf
  clear hf
  intro v1 v2 ls hl hf
  refine lv_iload_n C.1 C.2.1 (dk_at dkX6_bitsOf 17 rfl) rfl (lv_at hl 0 rfl) ?_
  cases hf
  exact fin _ _ _ (dk_at dkX6_bitsOf 18 rfl) rfl
-- X6.walls
abbrev tbX6_walls : List (Nat × Instr × Nat) := [(0, .iconst 0, 1), (1, .istore_n 1, 1), (2, .iconst 0, 1), (3, .istore_n 2, 1), (4, .iload_n 2, 1), (5, .bipush 8, 2), (7, .if_icmp .ge 21, 3), (10, .iload_n 1, 1), (11, .aload_n 0, 1), (12, .getfield 13, 3), (15, .iload_n 2, 1), (16, .iaload, 1), (17, .invokestatic 178, 3), (20, .iadd, 1), (21, .istore_n 1, 1), (22, .iinc 2 1, 3), (25, .goto (-21), 3), (28, .iload_n 1, 1), (29, .ireturn, 1)]
theorem dkX6_walls : dk cX6_walls tbX6_walls := dk_of (by decide +kernel)
abbrev cdX6_walls : Cond := Cond.code yX6_walls cX6_walls 3 (some .int)
abbrev rmX6_walls : Room := { frames := 1, cells := 0, slots := 0, locals := 22 }
theorem mwX6_walls : Cond.instanceMethod yX6_walls ∈ wsL_law ∧ Cond.selects RX6 yX6_walls yX6_walls ∈ wsL_law ∧ Cond.initialized RX6 ∈ wsL_law ∧ cdX6_walls ∈ wsL_law := ⟨inr17 _ (List.mem_of_getElem? (i := 11) rfl), inr17 _ (List.mem_of_getElem? (i := 12) rfl), inr1 _ (List.mem_of_getElem? (i := 5) rfl), inr17 _ (List.mem_of_getElem? (i := 13) rfl)⟩
theorem hdX6_walls : yX6_walls.cls = RX6 ∧ yX6_walls.cls ≠ "java/lang/invoke/MethodHandle" ∧ yX6_walls.cls ≠ "java/lang/invoke/VarHandle" ∧ (parseMethodDescriptor yX6_walls.desc).map (fun d => d.parameters.length) = some 0 := by decide +kernel
set_option maxHeartbeats 4000000 in
set_option maxRecDepth 100000 in
theorem kX6_walls (l : Launch) (g : Gx) (a_m : Nat → Nat) (st : AI) (now : AI) (isKept : AI) (hearers : Int32) (draft : AI) (dHearers : Int32) (dWalls : Int32) (toldWinds : Int32) (tape : AI) (taped : Int32) (pos : Int32) (frm : Int32) (sort : Int32) (value : Int32) (fault : Int32) (wrongAt : Int32) (landed : AI) (landedIn : AI) (stepped : AI) (isThere : AI) (isAt : AI) (isNext : AI) (landSum : Int64) (heardSum : Int64) (allWays : Int64) (ways : AI) (drawn : AI) (lanes : AI) (sizes : AI) (cells : AI) (torn : Int32) (before : AI) (res : Int32) (hf : fX6_walls now = some res) : Met l yX6_walls (cdX6_walls :: wsL_law) rmX6_walls (va_Pc [.ref (a_m 0)] (RO g (wM g a_m st now isKept hearers draft dHearers dWalls toldWinds tape taped pos frm sort value fault wrongAt landed landedIn stepped isThere isAt isNext landSum heardSum allWays ways drawn lanes sizes cells torn before))) (vp_Si (fun x => x = res)) 0 0 (fun _ => False) := by
  refine Met_roi (cc := cX6_walls) (maxL := 3) (by decide) rfl (Nat.le_of_ble_eq_true rfl) ?_
  intro P E Z Mi AR BE ME CO Q C fin hK hP ls hl
  have hl : lv_has ls 3 [(0, .ref (a_m 0))] := hl
  unfold fX6_walls at hf
  refine lv_iconst (v := 0) C.1 C.2.1 (dk_at dkX6_walls 0 rfl) (by decide) ?_
  refine lv_istore_n (lv' := [(1, .int 0), (0, .ref (a_m 0))]) C.1 C.2.1 (dk_at dkX6_walls 1 rfl) rfl hl (by decide) rfl (fun ls hl => ?_)
  refine lv_iconst (v := 0) C.1 C.2.1 (dk_at dkX6_walls 2 rfl) (by decide) ?_
  refine lv_istore_n (lv' := [(2, .int 0), (1, .int 0), (0, .ref (a_m 0))]) C.1 C.2.1 (dk_at dkX6_walls 3 rfl) rfl hl (by decide) rfl (fun ls hl => ?_)
  have L3 : ∀ (K : Int32 → Int32 → Option (Int32)), (∀ (v1 : Int32) (v2 : Int32) (ls : Array Slot), lv_has ls 3 [(1, .int v2)] → K v1 v2 = some res → W P l E rmX6_walls Z Mi AR BE ME CO Z.heap [] 0 0 Q (F0 Mi 28 ls [])) → ∀ (n : Nat), ∀ (v1 : Int32) (v2 : Int32) (ls : Array Slot), lv_has ls 3 [(2, .int v1), (1, .int v2), (0, .ref (a_m 0))] → fX6_walls_L4 now K n v1 v2 = some res → W P l E rmX6_walls Z Mi AR BE ME CO Z.heap [] 0 0 Q (F0 Mi 4 ls []) := by
    intro K hKe n
    induction n with
    | zero => intro v1 v2 ls hl hf; cases hf
    | succ n ih =>
      intro v1 v2 ls hl hf
      rw [fX6_walls_L4] at hf
      refine lv_iload_n C.1 C.2.1 (dk_at dkX6_walls 4 rfl) rfl (lv_at hl 0 rfl) ?_
      refine lv_bipush (v := 8) C.1 C.2.1 (dk_at dkX6_walls 5 rfl) (by decide) ?_
      refine lv_icmp_ge (tgt := 28) C.1 C.2.1 (dk_at dkX6_walls 6 rfl) (by decide) (fun c4 => ?_) (fun c4 => ?_)
      · have hf := (if_pos c4).symm.trans hf
        exact hKe v1 v2 _ (lv_sub hl [1] rfl) hf
      · have hf := (if_neg c4).symm.trans hf
        refine lv_iload_n C.1 C.2.1 (dk_at dkX6_walls 7 rfl) rfl (lv_at hl 1 rfl) ?_
        refine lv_aload_n C.1 C.2.1 (dk_at dkX6_walls 8 rfl) rfl (lv_at hl 2 rfl) ?_
        refine r_get (v := .ref (a_m 2)) C hK hP (fun w h => List.mem_cons_of_mem _ (inlX6 w h)) 0 rfl rfl 1 (by decide) (List.mem_cons_of_mem _ (inr4 _ (List.mem_of_getElem? (i := 5) rfl))) rfl (dk_at dkX6_walls 9 rfl) ?_
        refine lv_iload_n C.1 C.2.1 (dk_at dkX6_walls 10 rfl) rfl (lv_at hl 0 rfl) ?_
        obtain ⟨h5, hf⟩ := gd_at hf
        refine r_iald (k := v1.toNatClampNeg) (f := now) C hK hP 2 rfl h5 rfl (dk_at dkX6_walls 11 rfl) ?_
        refine lv_topi (fun x6 ex6 => ?_)
        have hf := nm_at ex6 hf
        obtain ⟨r7, hq8, hf⟩ := bd1_at hf
        refine r_st (As := [.int x6]) (rest := [.int v2]) C (kX6_bitsOf l x6 r7 hq8) (cwS0 C (inr17 _ (List.mem_of_getElem? (i := 14) rfl)) mwX6_bitsOf hdX6_bitsOf ⟨Nat.le_of_ble_eq_true rfl, Nat.le_of_ble_eq_true rfl⟩) rfl hl.1 rfl (Nat.le_of_ble_eq_true rfl) ⟨Nat.zero_le _, Nat.zero_le _⟩ (dk_at dkX6_walls 12 rfl) ?_
        refine lv_iadd C.1 C.2.1 (dk_at dkX6_walls 13 rfl) ?_
        refine lv_topi (fun x9 ex9 => ?_)
        have hf := nm_at ex9 hf
        refine lv_istore_n (lv' := [(1, .int x9), (2, .int v1), (0, .ref (a_m 0))]) C.1 C.2.1 (dk_at dkX6_walls 14 rfl) rfl hl (by decide) rfl (fun ls hl => ?_)
        obtain ⟨x10, ex10⟩ : ∃ z : Int32, z = v1 + 1 := ⟨_, rfl⟩
        have hf := nm_at ex10 hf
        refine lv_iinc (v := x10) (lv' := [(2, .int x10), (1, .int x9), (0, .ref (a_m 0))]) C.1 C.2.1 (dk_at dkX6_walls 15 rfl) hl (k := 1) rfl (by rw [ex10]; rfl) (by decide) rfl (fun ls hl => ?_)
        refine lv_goto (tgt := 4) C.1 C.2.1 (dk_at dkX6_walls 16 rfl) (by decide) ?_
        exact ih x10 x9 _ (lv_sub hl [0, 1, 2] rfl) hf
  refine L3 _ ?_ 4096 0 0 _ (lv_sub hl [0, 1, 2] rfl) hf
  clear hf
  intro v1 v2 ls hl hf
  refine lv_iload_n C.1 C.2.1 (dk_at dkX6_walls 17 rfl) rfl (lv_at hl 0 rfl) ?_
  cases hf
  exact fin _ _ _ (dk_at dkX6_walls 18 rfl) rfl
-- X6.reachOf
abbrev tbX6_reachOf : List (Nat × Instr × Nat) := [(0, .aload_n 0, 1), (1, .iload_n 1, 1), (2, .iconst 3, 1), (3, .invokevirtual 181, 3), (6, .istore_n 2, 1), (7, .iload_n 2, 1), (8, .iconst 1, 1), (9, .iadd, 1), (10, .iconst 2, 1), (11, .idiv, 1), (12, .istore_n 3, 1), (13, .aload_n 0, 1), (14, .iload_n 1, 1), (15, .iconst 0, 1), (16, .invokevirtual 181, 3), (19, .tableswitch 35 1 3 #[25, 27, 31], 25), (44, .iload_n 3, 1), (45, .ireturn, 1), (46, .iload_n 2, 1), (47, .iconst 1, 1), (48, .isub, 1), (49, .ireturn, 1), (50, .iconst 2, 1), (51, .iload_n 3, 1), (52, .imul, 1), (53, .ireturn, 1), (54, .iload_n 2, 1), (55, .ireturn, 1)]
theorem dkX6_reachOf : dk cX6_reachOf tbX6_reachOf := dk_of (by decide +kernel)
abbrev cdX6_reachOf : Cond := Cond.code yX6_reachOf cX6_reachOf 4 (some .int)
abbrev rmX6_reachOf : Room := { frames := 1, cells := 0, slots := 0, locals := 22 }
theorem mwX6_reachOf : Cond.instanceMethod yX6_reachOf ∈ wsL_law ∧ Cond.selects RX6 yX6_reachOf yX6_reachOf ∈ wsL_law ∧ Cond.initialized RX6 ∈ wsL_law ∧ cdX6_reachOf ∈ wsL_law := ⟨inr18 _ (List.mem_of_getElem? (i := 19) rfl), inr18 _ (List.mem_of_getElem? (i := 20) rfl), inr1 _ (List.mem_of_getElem? (i := 5) rfl), inr18 _ (List.mem_of_getElem? (i := 21) rfl)⟩
theorem hdX6_reachOf : yX6_reachOf.cls = RX6 ∧ yX6_reachOf.cls ≠ "java/lang/invoke/MethodHandle" ∧ yX6_reachOf.cls ≠ "java/lang/invoke/VarHandle" ∧ (parseMethodDescriptor yX6_reachOf.desc).map (fun d => d.parameters.length) = some 1 := by decide +kernel
set_option maxHeartbeats 4000000 in
set_option maxRecDepth 100000 in
theorem kX6_reachOf (l : Launch) (g : Gx) (a_m : Nat → Nat) (st : AI) (now : AI) (isKept : AI) (hearers : Int32) (draft : AI) (dHearers : Int32) (dWalls : Int32) (toldWinds : Int32) (tape : AI) (taped : Int32) (pos : Int32) (frm : Int32) (sort : Int32) (value : Int32) (fault : Int32) (wrongAt : Int32) (landed : AI) (landedIn : AI) (stepped : AI) (isThere : AI) (isAt : AI) (isNext : AI) (landSum : Int64) (heardSum : Int64) (allWays : Int64) (ways : AI) (drawn : AI) (lanes : AI) (sizes : AI) (cells : AI) (torn : Int32) (before : AI) (p1 : Int32) (res : Int32) (hf : fX6_reachOf p1 now = some res) : Met l yX6_reachOf (cdX6_reachOf :: wsL_law) rmX6_reachOf (va_Pc [.ref (a_m 0), .int p1] (RO g (wM g a_m st now isKept hearers draft dHearers dWalls toldWinds tape taped pos frm sort value fault wrongAt landed landedIn stepped isThere isAt isNext landSum heardSum allWays ways drawn lanes sizes cells torn before))) (vp_Si (fun x => x = res)) 0 0 (fun _ => False) := by
  refine Met_roi (cc := cX6_reachOf) (maxL := 4) (by decide) rfl (Nat.le_of_ble_eq_true rfl) ?_
  intro P E Z Mi AR BE ME CO Q C fin hK hP ls hl
  have hl : lv_has ls 4 [(0, .ref (a_m 0)), (1, .int p1)] := hl
  unfold fX6_reachOf at hf
  refine lv_aload_n C.1 C.2.1 (dk_at dkX6_reachOf 0 rfl) rfl (lv_at hl 0 rfl) ?_
  refine lv_iload_n C.1 C.2.1 (dk_at dkX6_reachOf 1 rfl) rfl (lv_at hl 1 rfl) ?_
  refine lv_iconst (v := 3) C.1 C.2.1 (dk_at dkX6_reachOf 2 rfl) (by decide) ?_
  obtain ⟨r1, hq2, hf⟩ := bd1_at hf
  refine r_roV (As := [.int p1, .int 3]) (rest := []) C (kX6_of l g a_m st now isKept hearers draft dHearers dWalls toldWinds tape taped pos frm sort value fault wrongAt landed landedIn stepped isThere isAt isNext landSum heardSum allWays ways drawn lanes sizes cells torn before p1 3 r1 hq2) (cwV0 C (inr18 _ (List.mem_of_getElem? (i := 14) rfl)) mwX6_of hdX6_of ⟨Nat.le_of_ble_eq_true rfl, Nat.le_of_ble_eq_true rfl⟩) hK hP rfl rfl rfl hl.1 rfl (Nat.le_of_ble_eq_true rfl) ⟨Nat.zero_le _, Nat.zero_le _⟩ (dk_at dkX6_reachOf 3 rfl) ?_
  refine lv_istore_n (lv' := [(2, .int r1), (0, .ref (a_m 0)), (1, .int p1)]) C.1 C.2.1 (dk_at dkX6_reachOf 4 rfl) rfl hl (by decide) rfl (fun ls hl => ?_)
  refine lv_iload_n C.1 C.2.1 (dk_at dkX6_reachOf 5 rfl) rfl (lv_at hl 0 rfl) ?_
  refine lv_iconst (v := 1) C.1 C.2.1 (dk_at dkX6_reachOf 6 rfl) (by decide) ?_
  refine lv_iadd C.1 C.2.1 (dk_at dkX6_reachOf 7 rfl) ?_
  refine lv_topi (fun x3 ex3 => ?_)
  have hf := nm_at ex3 hf
  refine lv_iconst (v := 2) C.1 C.2.1 (dk_at dkX6_reachOf 8 rfl) (by decide) ?_
  refine lv_idiv C.1 C.2.1 (dk_at dkX6_reachOf 9 rfl) (by decide) ?_
  refine lv_topi (fun x4 ex4 => ?_)
  have hf := nm_at ex4 hf
  refine lv_istore_n (lv' := [(3, .int x4), (2, .int r1), (0, .ref (a_m 0)), (1, .int p1)]) C.1 C.2.1 (dk_at dkX6_reachOf 10 rfl) rfl hl (by decide) rfl (fun ls hl => ?_)
  refine lv_aload_n C.1 C.2.1 (dk_at dkX6_reachOf 11 rfl) rfl (lv_at hl 2 rfl) ?_
  refine lv_iload_n C.1 C.2.1 (dk_at dkX6_reachOf 12 rfl) rfl (lv_at hl 3 rfl) ?_
  refine lv_iconst (v := 0) C.1 C.2.1 (dk_at dkX6_reachOf 13 rfl) (by decide) ?_
  obtain ⟨r5, hq6, hf⟩ := bd1_at hf
  refine r_roV (As := [.int p1, .int 0]) (rest := []) C (kX6_of l g a_m st now isKept hearers draft dHearers dWalls toldWinds tape taped pos frm sort value fault wrongAt landed landedIn stepped isThere isAt isNext landSum heardSum allWays ways drawn lanes sizes cells torn before p1 0 r5 hq6) (cwV0 C (inr18 _ (List.mem_of_getElem? (i := 14) rfl)) mwX6_of hdX6_of ⟨Nat.le_of_ble_eq_true rfl, Nat.le_of_ble_eq_true rfl⟩) hK hP rfl rfl rfl hl.1 rfl (Nat.le_of_ble_eq_true rfl) ⟨Nat.zero_le _, Nat.zero_le _⟩ (dk_at dkX6_reachOf 14 rfl) ?_
  by_cases c7 : r5 = 1
  · have hf := (if_pos c7).symm.trans hf
    refine lv_tableIn (tgt := 44) C.1 C.2.1 (dk_at dkX6_reachOf 15 rfl) (by rw [c7]; decide) (by rw [c7]; decide) (by rw [c7]; rfl) (by decide) ?_
    refine lv_iload_n C.1 C.2.1 (dk_at dkX6_reachOf 16 rfl) rfl (lv_at hl 0 rfl) ?_
    cases hf
    exact fin _ _ _ (dk_at dkX6_reachOf 17 rfl) rfl
  have hf := (if_neg c7).symm.trans hf
  by_cases c8 : r5 = 2
  · have hf := (if_pos c8).symm.trans hf
    refine lv_tableIn (tgt := 46) C.1 C.2.1 (dk_at dkX6_reachOf 15 rfl) (by rw [c8]; decide) (by rw [c8]; decide) (by rw [c8]; rfl) (by decide) ?_
    refine lv_iload_n C.1 C.2.1 (dk_at dkX6_reachOf 18 rfl) rfl (lv_at hl 1 rfl) ?_
    refine lv_iconst (v := 1) C.1 C.2.1 (dk_at dkX6_reachOf 19 rfl) (by decide) ?_
    refine lv_isub C.1 C.2.1 (dk_at dkX6_reachOf 20 rfl) ?_
    refine lv_topi (fun x9 ex9 => ?_)
    have hf := nm_at ex9 hf
    cases hf
    exact fin _ _ _ (dk_at dkX6_reachOf 21 rfl) rfl
  have hf := (if_neg c8).symm.trans hf
  by_cases c10 : r5 = 3
  · have hf := (if_pos c10).symm.trans hf
    refine lv_tableIn (tgt := 50) C.1 C.2.1 (dk_at dkX6_reachOf 15 rfl) (by rw [c10]; decide) (by rw [c10]; decide) (by rw [c10]; rfl) (by decide) ?_
    refine lv_iconst (v := 2) C.1 C.2.1 (dk_at dkX6_reachOf 22 rfl) (by decide) ?_
    refine lv_iload_n C.1 C.2.1 (dk_at dkX6_reachOf 23 rfl) rfl (lv_at hl 0 rfl) ?_
    refine lv_imul C.1 C.2.1 (dk_at dkX6_reachOf 24 rfl) ?_
    refine lv_topi (fun x11 ex11 => ?_)
    have hf := nm_at ex11 hf
    cases hf
    exact fin _ _ _ (dk_at dkX6_reachOf 25 rfl) rfl
  have hf := (if_neg c10).symm.trans hf
  have c7n : r5.toInt ≠ 1 := fun q => c7 (by rw [← Int32.ofInt_toInt r5, q]; rfl)
  have c8n : r5.toInt ≠ 2 := fun q => c8 (by rw [← Int32.ofInt_toInt r5, q]; rfl)
  have c10n : r5.toInt ≠ 3 := fun q => c10 (by rw [← Int32.ofInt_toInt r5, q]; rfl)
  refine lv_tableOut (tgt := 54) C.1 C.2.1 (dk_at dkX6_reachOf 15 rfl) (by omega) (by decide) ?_
  refine lv_iload_n C.1 C.2.1 (dk_at dkX6_reachOf 26 rfl) rfl (lv_at hl 1 rfl) ?_
  cases hf
  exact fin _ _ _ (dk_at dkX6_reachOf 27 rfl) rfl
-- X6.beside
abbrev tbX6_beside : List (Nat × Instr × Nat) := [(0, .iload_n 0, 1), (1, .bipush 10, 2), (3, .idiv, 1), (4, .iload_n 1, 1), (5, .iconst 1, 1), (6, .if_icmp .ne 7, 3), (9, .iconst 1, 1), (10, .goto 13, 3), (13, .iload_n 1, 1), (14, .iconst 3, 1), (15, .if_icmp .ne 7, 3), (18, .iconst (-1), 1), (19, .goto 4, 3), (22, .iconst 0, 1), (23, .iadd, 1), (24, .istore_n 2, 1), (25, .iload_n 0, 1), (26, .bipush 10, 2), (28, .irem, 1), (29, .iload_n 1, 1), (30, .ifCond .ne 7, 3), (33, .iconst 1, 1), (34, .goto 13, 3), (37, .iload_n 1, 1), (38, .iconst 2, 1), (39, .if_icmp .ne 7, 3), (42, .iconst (-1), 1), (43, .goto 4, 3), (46, .iconst 0, 1), (47, .iadd, 1), (48, .istore_n 3, 1), (49, .iload_n 2, 1), (50, .i2l, 1), (51, .lconst 0, 1), (52, .ldc2_w 184, 3), (55, .invokestatic 83, 3), (58, .ifCond .eq 24, 3), (61, .iload_n 3, 1), (62, .i2l, 1), (63, .lconst 0, 1), (64, .ldc2_w 184, 3), (67, .invokestatic 83, 3), (70, .ifCond .eq 12, 3), (73, .bipush 10, 2), (75, .iload_n 2, 1), (76, .imul, 1), (77, .iload_n 3, 1), (78, .iadd, 1), (79, .goto 5, 3), (82, .bipush (-4), 2), (84, .ireturn, 1)]
theorem dkX6_beside : dk cX6_beside tbX6_beside := dk_of (by decide +kernel)
abbrev cdX6_beside : Cond := Cond.code yX6_beside cX6_beside 4 (some .int)
abbrev rmX6_beside : Room := { frames := 1, cells := 0, slots := 0, locals := 25 }
theorem mwX6_beside : Cond.static yX6_beside ∈ wsL_law ∧ Cond.initialized yX6_beside.cls ∈ wsL_law ∧ cdX6_beside ∈ wsL_law := ⟨inr25 _ (List.mem_of_getElem? (i := 18) rfl), inr1 _ (List.mem_of_getElem? (i := 5) rfl), inr25 _ (List.mem_of_getElem? (i := 19) rfl)⟩
theorem hdX6_beside : yX6_beside.cls ≠ "java/lang/invoke/MethodHandle" ∧ yX6_beside.cls ≠ "java/lang/invoke/VarHandle" ∧ (parseMethodDescriptor yX6_beside.desc).map (fun d => d.parameters.length) = some 2 := by decide +kernel
set_option maxHeartbeats 4000000 in
set_option maxRecDepth 100000 in
theorem kX6_beside (l : Launch) (p1 : Int32) (p2 : Int32) (res : Int32) (hf : fX6_beside p1 p2 = some res) : Met l yX6_beside (cdX6_beside :: wsL_law) rmX6_beside (va_Pc [.int p1, .int p2] (fun _ => True)) (vp_Si (fun x => x = res)) 0 0 (fun _ => False) := by
  refine Met_sti (cc := cX6_beside) (maxL := 4) (by decide) rfl (Nat.le_of_ble_eq_true rfl) ?_
  intro P E Z Mi AR BE ME CO Q C fin ls hl
  have hl : lv_has ls 4 [(0, .int p1), (1, .int p2)] := hl
  unfold fX6_beside at hf
  refine lv_iload_n C.1 C.2.1 (dk_at dkX6_beside 0 rfl) rfl (lv_at hl 0 rfl) ?_
  refine lv_bipush (v := 10) C.1 C.2.1 (dk_at dkX6_beside 1 rfl) (by decide) ?_
  refine lv_idiv C.1 C.2.1 (dk_at dkX6_beside 2 rfl) (by decide) ?_
  refine lv_topi (fun x1 ex1 => ?_)
  have hf := nm_at ex1 hf
  refine lv_iload_n C.1 C.2.1 (dk_at dkX6_beside 3 rfl) rfl (lv_at hl 1 rfl) ?_
  refine lv_iconst (v := 1) C.1 C.2.1 (dk_at dkX6_beside 4 rfl) (by decide) ?_
  obtain ⟨y2, hq3, hf⟩ := bd1_at hf
  have J4 : ∀ (ls : Array Slot), lv_has ls 4 [(0, .int p1), (1, .int p2)] → W P l E rmX6_beside Z Mi AR BE ME CO Z.heap [] 0 0 Q (F0 Mi 23 ls [.int y2, .int x1]) := by
    intro ls hl
    refine lv_iadd C.1 C.2.1 (dk_at dkX6_beside 14 rfl) ?_
    refine lv_topi (fun x5 ex5 => ?_)
    have hf := nm_at ex5 hf
    refine lv_istore_n (lv' := [(2, .int x5), (0, .int p1), (1, .int p2)]) C.1 C.2.1 (dk_at dkX6_beside 15 rfl) rfl hl (by decide) rfl (fun ls hl => ?_)
    refine lv_iload_n C.1 C.2.1 (dk_at dkX6_beside 16 rfl) rfl (lv_at hl 1 rfl) ?_
    refine lv_bipush (v := 10) C.1 C.2.1 (dk_at dkX6_beside 17 rfl) (by decide) ?_
    refine lv_irem C.1 C.2.1 (dk_at dkX6_beside 18 rfl) (by decide) ?_
    refine lv_topi (fun x6 ex6 => ?_)
    have hf := nm_at ex6 hf
    refine lv_iload_n C.1 C.2.1 (dk_at dkX6_beside 19 rfl) rfl (lv_at hl 2 rfl) ?_
    obtain ⟨y7, hq8, hf⟩ := bd1_at hf
    have J9 : ∀ (ls : Array Slot), lv_has ls 4 [(2, .int x5)] → W P l E rmX6_beside Z Mi AR BE ME CO Z.heap [] 0 0 Q (F0 Mi 47 ls [.int y7, .int x6]) := by
      intro ls hl
      refine lv_iadd C.1 C.2.1 (dk_at dkX6_beside 29 rfl) ?_
      refine lv_topi (fun x10 ex10 => ?_)
      have hf := nm_at ex10 hf
      refine lv_istore_n (lv' := [(3, .int x10), (2, .int x5)]) C.1 C.2.1 (dk_at dkX6_beside 30 rfl) rfl hl (by decide) rfl (fun ls hl => ?_)
      refine lv_iload_n C.1 C.2.1 (dk_at dkX6_beside 31 rfl) rfl (lv_at hl 1 rfl) ?_
      refine lv_i2l C.1 C.2.1 (dk_at dkX6_beside 32 rfl) rfl ?_
      refine lv_topl (fun x11 ex11 => ?_)
      have hf := nm_at ex11 hf
      refine lv_lconst (v := 0) C.1 C.2.1 (dk_at dkX6_beside 33 rfl) (by decide) ?_
      refine lv_ldc2 (v := 7) C.1 C.2.1 C.2.2.2.1 (C.2.2.2.2 _ (List.mem_cons_of_mem _ (inr25 _ (List.mem_of_getElem? (i := 20) rfl)))) (dk_at dkX6_beside 34 rfl) ?_
      obtain ⟨r12, hq13, hf⟩ := bd1_at hf
      refine r_st (As := [.long x11, .long 0, .long 7]) (rest := []) C (kX6_in l x11 0 7 r12 hq13) (cwS0 C (inr5 _ (List.mem_of_getElem? (i := 21) rfl)) mwX6_in hdX6_in ⟨Nat.le_of_ble_eq_true rfl, Nat.le_of_ble_eq_true rfl⟩) rfl hl.1 rfl (Nat.le_of_ble_eq_true rfl) ⟨Nat.zero_le _, Nat.zero_le _⟩ (dk_at dkX6_beside 35 rfl) ?_
      refine lv_if_eq (tgt := 82) C.1 C.2.1 (dk_at dkX6_beside 36 rfl) (by decide) (fun c14 => ?_) (fun c14 => ?_)
      · have hf := (if_pos c14).symm.trans hf
        refine lv_bipush (v := (-4)) C.1 C.2.1 (dk_at dkX6_beside 49 rfl) (by decide) ?_
        cases hf
        exact fin _ _ _ (dk_at dkX6_beside 50 rfl) rfl
      · have hf := (if_neg c14).symm.trans hf
        refine lv_iload_n C.1 C.2.1 (dk_at dkX6_beside 37 rfl) rfl (lv_at hl 0 rfl) ?_
        refine lv_i2l C.1 C.2.1 (dk_at dkX6_beside 38 rfl) rfl ?_
        refine lv_topl (fun x15 ex15 => ?_)
        have hf := nm_at ex15 hf
        refine lv_lconst (v := 0) C.1 C.2.1 (dk_at dkX6_beside 39 rfl) (by decide) ?_
        refine lv_ldc2 (v := 7) C.1 C.2.1 C.2.2.2.1 (C.2.2.2.2 _ (List.mem_cons_of_mem _ (inr25 _ (List.mem_of_getElem? (i := 20) rfl)))) (dk_at dkX6_beside 40 rfl) ?_
        obtain ⟨r16, hq17, hf⟩ := bd1_at hf
        refine r_st (As := [.long x15, .long 0, .long 7]) (rest := []) C (kX6_in l x15 0 7 r16 hq17) (cwS0 C (inr5 _ (List.mem_of_getElem? (i := 21) rfl)) mwX6_in hdX6_in ⟨Nat.le_of_ble_eq_true rfl, Nat.le_of_ble_eq_true rfl⟩) rfl hl.1 rfl (Nat.le_of_ble_eq_true rfl) ⟨Nat.zero_le _, Nat.zero_le _⟩ (dk_at dkX6_beside 41 rfl) ?_
        refine lv_if_eq (tgt := 82) C.1 C.2.1 (dk_at dkX6_beside 42 rfl) (by decide) (fun c18 => ?_) (fun c18 => ?_)
        · have hf := (if_pos c18).symm.trans hf
          refine lv_bipush (v := (-4)) C.1 C.2.1 (dk_at dkX6_beside 49 rfl) (by decide) ?_
          cases hf
          exact fin _ _ _ (dk_at dkX6_beside 50 rfl) rfl
        · have hf := (if_neg c18).symm.trans hf
          refine lv_bipush (v := 10) C.1 C.2.1 (dk_at dkX6_beside 43 rfl) (by decide) ?_
          refine lv_iload_n C.1 C.2.1 (dk_at dkX6_beside 44 rfl) rfl (lv_at hl 1 rfl) ?_
          refine lv_imul C.1 C.2.1 (dk_at dkX6_beside 45 rfl) ?_
          refine lv_topi (fun x19 ex19 => ?_)
          have hf := nm_at ex19 hf
          refine lv_iload_n C.1 C.2.1 (dk_at dkX6_beside 46 rfl) rfl (lv_at hl 0 rfl) ?_
          refine lv_iadd C.1 C.2.1 (dk_at dkX6_beside 47 rfl) ?_
          refine lv_topi (fun x20 ex20 => ?_)
          have hf := nm_at ex20 hf
          refine lv_goto (tgt := 84) C.1 C.2.1 (dk_at dkX6_beside 48 rfl) (by decide) ?_
          cases hf
          exact fin _ _ _ (dk_at dkX6_beside 50 rfl) rfl
    clear hf
    have hf := hq8
    refine lv_if_ne (tgt := 37) C.1 C.2.1 (dk_at dkX6_beside 20 rfl) (by decide) (fun c21 => ?_) (fun c21 => ?_)
    · have hf := (if_neg c21).symm.trans hf
      refine lv_iload_n C.1 C.2.1 (dk_at dkX6_beside 23 rfl) rfl (lv_at hl 2 rfl) ?_
      refine lv_iconst (v := 2) C.1 C.2.1 (dk_at dkX6_beside 24 rfl) (by decide) ?_
      refine lv_icmp_ne (tgt := 46) C.1 C.2.1 (dk_at dkX6_beside 25 rfl) (by decide) (fun c22 => ?_) (fun c22 => ?_)
      · have hf := (if_neg c22).symm.trans hf
        refine lv_iconst (v := 0) C.1 C.2.1 (dk_at dkX6_beside 28 rfl) (by decide) ?_
        cases hf
        exact J9 _ (lv_sub hl [0] rfl)
      · have hf := (if_pos c22).symm.trans hf
        refine lv_iconst (v := (-1)) C.1 C.2.1 (dk_at dkX6_beside 26 rfl) (by decide) ?_
        refine lv_goto (tgt := 47) C.1 C.2.1 (dk_at dkX6_beside 27 rfl) (by decide) ?_
        cases hf
        exact J9 _ (lv_sub hl [0] rfl)
    · have hf := (if_pos c21).symm.trans hf
      refine lv_iconst (v := 1) C.1 C.2.1 (dk_at dkX6_beside 21 rfl) (by decide) ?_
      refine lv_goto (tgt := 47) C.1 C.2.1 (dk_at dkX6_beside 22 rfl) (by decide) ?_
      cases hf
      exact J9 _ (lv_sub hl [0] rfl)
  clear hf
  have hf := hq3
  refine lv_icmp_ne (tgt := 13) C.1 C.2.1 (dk_at dkX6_beside 5 rfl) (by decide) (fun c23 => ?_) (fun c23 => ?_)
  · have hf := (if_neg c23).symm.trans hf
    refine lv_iload_n C.1 C.2.1 (dk_at dkX6_beside 8 rfl) rfl (lv_at hl 1 rfl) ?_
    refine lv_iconst (v := 3) C.1 C.2.1 (dk_at dkX6_beside 9 rfl) (by decide) ?_
    refine lv_icmp_ne (tgt := 22) C.1 C.2.1 (dk_at dkX6_beside 10 rfl) (by decide) (fun c24 => ?_) (fun c24 => ?_)
    · have hf := (if_neg c24).symm.trans hf
      refine lv_iconst (v := 0) C.1 C.2.1 (dk_at dkX6_beside 13 rfl) (by decide) ?_
      cases hf
      exact J4 _ (lv_sub hl [0, 1] rfl)
    · have hf := (if_pos c24).symm.trans hf
      refine lv_iconst (v := (-1)) C.1 C.2.1 (dk_at dkX6_beside 11 rfl) (by decide) ?_
      refine lv_goto (tgt := 23) C.1 C.2.1 (dk_at dkX6_beside 12 rfl) (by decide) ?_
      cases hf
      exact J4 _ (lv_sub hl [0, 1] rfl)
  · have hf := (if_pos c23).symm.trans hf
    refine lv_iconst (v := 1) C.1 C.2.1 (dk_at dkX6_beside 6 rfl) (by decide) ?_
    refine lv_goto (tgt := 23) C.1 C.2.1 (dk_at dkX6_beside 7 rfl) (by decide) ?_
    cases hf
    exact J4 _ (lv_sub hl [0, 1] rfl)
-- X6.flies
abbrev tbX6_flies : List (Nat × Instr × Nat) := [(0, .aload_n 0, 1), (1, .iload_n 1, 1), (2, .iconst 0, 1), (3, .invokevirtual 181, 3), (6, .iconst 3, 1), (7, .if_icmp .ne 7, 3), (10, .iconst 1, 1), (11, .goto 4, 3), (14, .iconst 0, 1), (15, .istore_n 2, 1), (16, .aload_n 0, 1), (17, .iload_n 1, 1), (18, .iconst 1, 1), (19, .invokevirtual 181, 3), (22, .istore_n 3, 1), (23, .iconst 0, 1), (24, .istore 4, 2), (26, .iload_n 3, 1), (27, .aload_n 0, 1), (28, .iload_n 1, 1), (29, .iconst 2, 1), (30, .invokevirtual 181, 3), (33, .invokestatic 186, 3), (36, .istore 5, 2), (38, .iload 4, 2), (40, .aload_n 0, 1), (41, .iload_n 1, 1), (42, .invokevirtual 189, 3), (45, .if_icmp .ge 44, 3), (48, .iload 5, 2), (50, .bipush (-4), 2), (52, .if_icmp .eq 37, 3), (55, .iload_n 2, 1), (56, .ifCond .ne 12, 3), (59, .aload_n 0, 1), (60, .iload 5, 2), (62, .invokevirtual 192, 3), (65, .ifCond .ne 24, 3), (68, .iload 5, 2), (70, .istore_n 3, 1), (71, .iinc 4 1, 3), (74, .iload_n 3, 1), (75, .aload_n 0, 1), (76, .iload_n 1, 1), (77, .iconst 2, 1), (78, .invokevirtual 181, 3), (81, .invokestatic 186, 3), (84, .istore 5, 2), (86, .goto (-48), 3), (89, .aload_n 0, 1), (90, .iload_n 1, 1), (91, .iconst 4, 1), (92, .invokevirtual 181, 3), (95, .iload 4, 2), (97, .iconst 2, 1), (98, .idiv, 1), (99, .iadd, 1), (100, .istore 6, 2), (102, .iload 6, 2), (104, .bipush 9, 2), (106, .if_icmp .le 8, 3), (109, .bipush 9, 2), (111, .goto 5, 3), (114, .iload 6, 2), (116, .istore 6, 2), (118, .aload_n 0, 1), (119, .getfield 13, 3), (122, .bipush 8, 2), (124, .iload 6, 2), (126, .iadd, 1), (127, .iaload, 1), (128, .iconst 4, 1), (129, .if_icmp .ne 8, 3), (132, .bipush (-4), 2), (134, .goto 17, 3), (137, .iload_n 3, 1), (138, .aload_n 0, 1), (139, .getfield 13, 3), (142, .bipush 8, 2), (144, .iload 6, 2), (146, .iadd, 1), (147, .iaload, 1), (148, .invokestatic 186, 3), (151, .istore 7, 2), (153, .aload_n 0, 1), (154, .getfield 26, 3), (157, .iload_n 1, 1), (158, .iload 7, 2), (160, .bipush (-4), 2), (162, .if_icmp .eq 21, 3), (165, .iload_n 2, 1), (166, .ifCond .ne 12, 3), (169, .aload_n 0, 1), (170, .iload 7, 2), (172, .invokevirtual 192, 3), (175, .ifCond .ne 8, 3), (178, .iload 7, 2), (180, .goto 4, 3), (183, .iload_n 3, 1), (184, .iastore, 1), (185, .aload_n 0, 1), (186, .getfield 29, 3), (189, .iload_n 1, 1), (190, .iload 6, 2), (192, .iastore, 1), (193, .aload_n 0, 1), (194, .getfield 32, 3), (197, .iload_n 1, 1), (198, .iload 4, 2), (200, .iastore, 1), (201, .aload_n 0, 1), (202, .iload_n 1, 1), (203, .iconst 0, 1), (204, .invokevirtual 181, 3), (207, .iconst 2, 1), (208, .if_icmp .ne 40, 3), (211, .aload_n 0, 1), (212, .invokevirtual 195, 3), (215, .bipush 12, 2), (217, .if_icmp .ge 31, 3), (220, .aload_n 0, 1), (221, .getfield 13, 3), (224, .aload_n 0, 1), (225, .getfield 26, 3), (228, .iload_n 1, 1), (229, .iaload, 1), (230, .bipush 10, 2), (232, .idiv, 1), (233, .dup2, 1), (234, .iaload, 1), (235, .iconst 1, 1), (236, .aload_n 0, 1), (237, .getfield 26, 3), (240, .iload_n 1, 1), (241, .iaload, 1), (242, .bipush 10, 2), (244, .irem, 1), (245, .ishl, 1), (246, .ior, 1), (247, .iastore, 1), (248, .return_, 1)]
theorem dkX6_flies : dk cX6_flies tbX6_flies := dk_of (by decide +kernel)
abbrev cdX6_flies : Cond := Cond.code yX6_flies cX6_flies 8 none
abbrev rmX6_flies : Room := { frames := 2, cells := 0, slots := 0, locals := 48 }
theorem mwX6_flies : Cond.instanceMethod yX6_flies ∈ wsL_law ∧ Cond.selects RX6 yX6_flies yX6_flies ∈ wsL_law ∧ Cond.initialized RX6 ∈ wsL_law ∧ cdX6_flies ∈ wsL_law := ⟨inr25 _ (List.mem_of_getElem? (i := 14) rfl), inr25 _ (List.mem_of_getElem? (i := 15) rfl), inr1 _ (List.mem_of_getElem? (i := 5) rfl), inr25 _ (List.mem_of_getElem? (i := 16) rfl)⟩
theorem hdX6_flies : yX6_flies.cls = RX6 ∧ yX6_flies.cls ≠ "java/lang/invoke/MethodHandle" ∧ yX6_flies.cls ≠ "java/lang/invoke/VarHandle" ∧ (parseMethodDescriptor yX6_flies.desc).map (fun d => d.parameters.length) = some 1 := by decide +kernel
set_option maxHeartbeats 4000000 in
set_option maxRecDepth 100000 in
theorem kX6_flies (l : Launch) (g : Gx) (sz : Nat) (a_m : Nat → Nat) (st : AI) (now : AI) (isKept : AI) (hearers : Int32) (draft : AI) (dHearers : Int32) (dWalls : Int32) (toldWinds : Int32) (tape : AI) (taped : Int32) (pos : Int32) (frm : Int32) (sort : Int32) (value : Int32) (fault : Int32) (wrongAt : Int32) (landed : AI) (landedIn : AI) (stepped : AI) (isThere : AI) (isAt : AI) (isNext : AI) (landSum : Int64) (heardSum : Int64) (allWays : Int64) (ways : AI) (drawn : AI) (lanes : AI) (sizes : AI) (cells : AI) (torn : Int32) (before : AI) (p1 : Int32) (now_o : AI) (landed_o : AI) (landedIn_o : AI) (stepped_o : AI) (hf : fX6_flies p1 now landed landedIn stepped = some (now_o, landed_o, landedIn_o, stepped_o)) : Met l yX6_flies (cdX6_flies :: wsL_law) rmX6_flies (va_Pc [.ref (a_m 0), .int p1] (RWp g sz (wM g a_m st now isKept hearers draft dHearers dWalls toldWinds tape taped pos frm sort value fault wrongAt landed landedIn stepped isThere isAt isNext landSum heardSum allWays ways drawn lanes sizes cells torn before))) (va_Qv (fun _ : Unit => True) (fun _ => RWq g (va_A (wM g a_m st now isKept hearers draft dHearers dWalls toldWinds tape taped pos frm sort value fault wrongAt landed landedIn stepped isThere isAt isNext landSum heardSum allWays ways drawn lanes sizes cells torn before) sz) (wM g a_m st now_o isKept hearers draft dHearers dWalls toldWinds tape taped pos frm sort value fault wrongAt landed_o landedIn_o stepped_o isThere isAt isNext landSum heardSum allWays ways drawn lanes sizes cells torn before)) (va_A (wM g a_m st now isKept hearers draft dHearers dWalls toldWinds tape taped pos frm sort value fault wrongAt landed landedIn stepped isThere isAt isNext landSum heardSum allWays ways drawn lanes sizes cells torn before) sz)) 0 0 (va_A (wM g a_m st now isKept hearers draft dHearers dWalls toldWinds tape taped pos frm sort value fault wrongAt landed landedIn stepped isThere isAt isNext landSum heardSum allWays ways drawn lanes sizes cells torn before) sz) := by
  refine Met_rwv (cc := cX6_flies) (maxL := 8) (by decide) rfl (Nat.le_of_ble_eq_true rfl) ?_
  intro P E Z Mi AR BE ME CO A Q C hK hA fin w ls hl
  have hl : lv_has ls 8 [(0, .ref (a_m 0)), (1, .int p1)] := hl
  unfold fX6_flies at hf
  refine lv_aload_n C.1 C.2.1 (dk_at dkX6_flies 0 rfl) rfl (lv_at hl 0 rfl) ?_
  refine lv_iload_n C.1 C.2.1 (dk_at dkX6_flies 1 rfl) rfl (lv_at hl 1 rfl) ?_
  refine lv_iconst (v := 0) C.1 C.2.1 (dk_at dkX6_flies 2 rfl) (by decide) ?_
  obtain ⟨r1, hq2, hf⟩ := bd1_at hf
  refine r_roV (As := [.int p1, .int 0]) (rest := []) C (kX6_of l g a_m st now isKept hearers draft dHearers dWalls toldWinds tape taped pos frm sort value fault wrongAt landed landedIn stepped isThere isAt isNext landSum heardSum allWays ways drawn lanes sizes cells torn before p1 0 r1 hq2) (cwV0 C (inr18 _ (List.mem_of_getElem? (i := 14) rfl)) mwX6_of hdX6_of ⟨Nat.le_of_ble_eq_true rfl, Nat.le_of_ble_eq_true rfl⟩) hK w.1 rfl rfl rfl hl.1 rfl (Nat.le_of_ble_eq_true rfl) ⟨Nat.zero_le _, Nat.zero_le _⟩ (dk_at dkX6_flies 3 rfl) ?_
  refine lv_iconst (v := 3) C.1 C.2.1 (dk_at dkX6_flies 4 rfl) (by decide) ?_
  obtain ⟨y3, hq4, hf⟩ := bd1_at hf
  have J5 : ∀ (H : Heap) (locs : List Loc) (ls : Array Slot), Wd g A Z.heap (wM g a_m st now isKept hearers draft dHearers dWalls toldWinds tape taped pos frm sort value fault wrongAt landed landedIn stepped isThere isAt isNext landSum heardSum allWays ways drawn lanes sizes cells torn before) H locs → lv_has ls 8 [(0, .ref (a_m 0)), (1, .int p1)] → W P l E rmX6_flies Z Mi AR BE ME CO H locs 0 0 Q (F0 Mi 15 ls [.int y3]) := by
    intro H locs ls w hl
    refine lv_istore_n (lv' := [(2, .int y3), (0, .ref (a_m 0)), (1, .int p1)]) C.1 C.2.1 (dk_at dkX6_flies 9 rfl) rfl hl (by decide) rfl (fun ls hl => ?_)
    refine lv_aload_n C.1 C.2.1 (dk_at dkX6_flies 10 rfl) rfl (lv_at hl 1 rfl) ?_
    refine lv_iload_n C.1 C.2.1 (dk_at dkX6_flies 11 rfl) rfl (lv_at hl 2 rfl) ?_
    refine lv_iconst (v := 1) C.1 C.2.1 (dk_at dkX6_flies 12 rfl) (by decide) ?_
    obtain ⟨r6, hq7, hf⟩ := bd1_at hf
    refine r_roV (As := [.int p1, .int 1]) (rest := []) C (kX6_of l g a_m st now isKept hearers draft dHearers dWalls toldWinds tape taped pos frm sort value fault wrongAt landed landedIn stepped isThere isAt isNext landSum heardSum allWays ways drawn lanes sizes cells torn before p1 1 r6 hq7) (cwV0 C (inr18 _ (List.mem_of_getElem? (i := 14) rfl)) mwX6_of hdX6_of ⟨Nat.le_of_ble_eq_true rfl, Nat.le_of_ble_eq_true rfl⟩) hK w.1 rfl rfl rfl hl.1 rfl (Nat.le_of_ble_eq_true rfl) ⟨Nat.zero_le _, Nat.zero_le _⟩ (dk_at dkX6_flies 13 rfl) ?_
    refine lv_istore_n (lv' := [(3, .int r6), (2, .int y3), (0, .ref (a_m 0)), (1, .int p1)]) C.1 C.2.1 (dk_at dkX6_flies 14 rfl) rfl hl (by decide) rfl (fun ls hl => ?_)
    refine lv_iconst (v := 0) C.1 C.2.1 (dk_at dkX6_flies 15 rfl) (by decide) ?_
    refine lv_istore (lv' := [(4, .int 0), (3, .int r6), (2, .int y3), (0, .ref (a_m 0)), (1, .int p1)]) C.1 C.2.1 (dk_at dkX6_flies 16 rfl) hl (by decide) rfl (fun ls hl => ?_)
    refine lv_iload_n C.1 C.2.1 (dk_at dkX6_flies 17 rfl) rfl (lv_at hl 1 rfl) ?_
    refine lv_aload_n C.1 C.2.1 (dk_at dkX6_flies 18 rfl) rfl (lv_at hl 3 rfl) ?_
    refine lv_iload_n C.1 C.2.1 (dk_at dkX6_flies 19 rfl) rfl (lv_at hl 4 rfl) ?_
    refine lv_iconst (v := 2) C.1 C.2.1 (dk_at dkX6_flies 20 rfl) (by decide) ?_
    obtain ⟨r8, hq9, hf⟩ := bd1_at hf
    refine r_roV (As := [.int p1, .int 2]) (rest := [.int r6]) C (kX6_of l g a_m st now isKept hearers draft dHearers dWalls toldWinds tape taped pos frm sort value fault wrongAt landed landedIn stepped isThere isAt isNext landSum heardSum allWays ways drawn lanes sizes cells torn before p1 2 r8 hq9) (cwV0 C (inr18 _ (List.mem_of_getElem? (i := 14) rfl)) mwX6_of hdX6_of ⟨Nat.le_of_ble_eq_true rfl, Nat.le_of_ble_eq_true rfl⟩) hK w.1 rfl rfl rfl hl.1 rfl (Nat.le_of_ble_eq_true rfl) ⟨Nat.zero_le _, Nat.zero_le _⟩ (dk_at dkX6_flies 21 rfl) ?_
    obtain ⟨r10, hq11, hf⟩ := bd1_at hf
    refine r_st (As := [.int r6, .int r8]) (rest := []) C (kX6_beside l r6 r8 r10 hq11) (cwS0 C (inr25 _ (List.mem_of_getElem? (i := 17) rfl)) mwX6_beside hdX6_beside ⟨Nat.le_of_ble_eq_true rfl, Nat.le_of_ble_eq_true rfl⟩) rfl hl.1 rfl (Nat.le_of_ble_eq_true rfl) ⟨Nat.zero_le _, Nat.zero_le _⟩ (dk_at dkX6_flies 22 rfl) ?_
    refine lv_istore (lv' := [(5, .int r10), (4, .int 0), (3, .int r6), (2, .int y3), (0, .ref (a_m 0)), (1, .int p1)]) C.1 C.2.1 (dk_at dkX6_flies 23 rfl) hl (by decide) rfl (fun ls hl => ?_)
    have L15 : ∀ (K : Int32 → Int32 → Int32 → Option (AI × AI × AI × AI)), (∀ (v12 : Int32) (v13 : Int32) (v14 : Int32) (H : Heap) (locs : List Loc) (ls : Array Slot), Wd g A Z.heap (wM g a_m st now isKept hearers draft dHearers dWalls toldWinds tape taped pos frm sort value fault wrongAt landed landedIn stepped isThere isAt isNext landSum heardSum allWays ways drawn lanes sizes cells torn before) H locs → lv_has ls 8 [(4, .int v13), (3, .int v14), (2, .int y3), (0, .ref (a_m 0)), (1, .int p1)] → K v12 v13 v14 = some (now_o, landed_o, landedIn_o, stepped_o) → W P l E rmX6_flies Z Mi AR BE ME CO H locs 0 0 Q (F0 Mi 89 ls [])) → ∀ (n : Nat), ∀ (v12 : Int32) (v13 : Int32) (v14 : Int32) (H : Heap) (locs : List Loc) (ls : Array Slot), Wd g A Z.heap (wM g a_m st now isKept hearers draft dHearers dWalls toldWinds tape taped pos frm sort value fault wrongAt landed landedIn stepped isThere isAt isNext landSum heardSum allWays ways drawn lanes sizes cells torn before) H locs → lv_has ls 8 [(5, .int v12), (4, .int v13), (3, .int v14), (2, .int y3), (0, .ref (a_m 0)), (1, .int p1)] → fX6_flies_L38 now p1 y3 K n v12 v13 v14 = some (now_o, landed_o, landedIn_o, stepped_o) → W P l E rmX6_flies Z Mi AR BE ME CO H locs 0 0 Q (F0 Mi 38 ls []) := by
      intro K hKe n
      induction n with
      | zero => intro v12 v13 v14 H locs ls w hl hf; cases hf
      | succ n ih =>
        intro v12 v13 v14 H locs ls w hl hf
        rw [fX6_flies_L38] at hf
        refine lv_iload C.1 C.2.1 (dk_at dkX6_flies 24 rfl) (lv_at hl 1 rfl) ?_
        refine lv_aload_n C.1 C.2.1 (dk_at dkX6_flies 25 rfl) rfl (lv_at hl 4 rfl) ?_
        refine lv_iload_n C.1 C.2.1 (dk_at dkX6_flies 26 rfl) rfl (lv_at hl 5 rfl) ?_
        obtain ⟨r16, hq17, hf⟩ := bd1_at hf
        refine r_roV (As := [.int p1]) (rest := [.int v13]) C (kX6_reachOf l g a_m st now isKept hearers draft dHearers dWalls toldWinds tape taped pos frm sort value fault wrongAt landed landedIn stepped isThere isAt isNext landSum heardSum allWays ways drawn lanes sizes cells torn before p1 r16 hq17) (cwV0 C (inr18 _ (List.mem_of_getElem? (i := 18) rfl)) mwX6_reachOf hdX6_reachOf ⟨Nat.le_of_ble_eq_true rfl, Nat.le_of_ble_eq_true rfl⟩) hK w.1 rfl rfl rfl hl.1 rfl (Nat.le_of_ble_eq_true rfl) ⟨Nat.zero_le _, Nat.zero_le _⟩ (dk_at dkX6_flies 27 rfl) ?_
        refine lv_icmp_ge (tgt := 89) C.1 C.2.1 (dk_at dkX6_flies 28 rfl) (by decide) (fun c18 => ?_) (fun c18 => ?_)
        · have hf := (if_pos c18).symm.trans hf
          exact hKe v12 v13 v14 _ _ _ w (lv_sub hl [1, 2, 3, 4, 5] rfl) hf
        · have hf := (if_neg c18).symm.trans hf
          refine lv_iload C.1 C.2.1 (dk_at dkX6_flies 29 rfl) (lv_at hl 0 rfl) ?_
          refine lv_bipush (v := (-4)) C.1 C.2.1 (dk_at dkX6_flies 30 rfl) (by decide) ?_
          refine lv_icmp_eq (tgt := 89) C.1 C.2.1 (dk_at dkX6_flies 31 rfl) (by decide) (fun c19 => ?_) (fun c19 => ?_)
          · have hf := (if_pos c19).symm.trans hf
            exact hKe v12 v13 v14 _ _ _ w (lv_sub hl [1, 2, 3, 4, 5] rfl) hf
          · have hf := (if_neg c19).symm.trans hf
            refine lv_iload_n C.1 C.2.1 (dk_at dkX6_flies 32 rfl) rfl (lv_at hl 3 rfl) ?_
            refine lv_if_ne (tgt := 68) C.1 C.2.1 (dk_at dkX6_flies 33 rfl) (by decide) (fun c20 => ?_) (fun c20 => ?_)
            · have hf := (if_neg c20).symm.trans hf
              refine lv_iload C.1 C.2.1 (dk_at dkX6_flies 38 rfl) (lv_at hl 0 rfl) ?_
              refine lv_istore_n (lv' := [(3, .int v12), (5, .int v12), (4, .int v13), (2, .int y3), (0, .ref (a_m 0)), (1, .int p1)]) C.1 C.2.1 (dk_at dkX6_flies 39 rfl) rfl hl (by decide) rfl (fun ls hl => ?_)
              obtain ⟨x21, ex21⟩ : ∃ z : Int32, z = v13 + 1 := ⟨_, rfl⟩
              have hf := nm_at ex21 hf
              refine lv_iinc (v := x21) (lv' := [(4, .int x21), (3, .int v12), (5, .int v12), (2, .int y3), (0, .ref (a_m 0)), (1, .int p1)]) C.1 C.2.1 (dk_at dkX6_flies 40 rfl) hl (k := 2) rfl (by rw [ex21]; rfl) (by decide) rfl (fun ls hl => ?_)
              refine lv_iload_n C.1 C.2.1 (dk_at dkX6_flies 41 rfl) rfl (lv_at hl 1 rfl) ?_
              refine lv_aload_n C.1 C.2.1 (dk_at dkX6_flies 42 rfl) rfl (lv_at hl 4 rfl) ?_
              refine lv_iload_n C.1 C.2.1 (dk_at dkX6_flies 43 rfl) rfl (lv_at hl 5 rfl) ?_
              refine lv_iconst (v := 2) C.1 C.2.1 (dk_at dkX6_flies 44 rfl) (by decide) ?_
              obtain ⟨r22, hq23, hf⟩ := bd1_at hf
              refine r_roV (As := [.int p1, .int 2]) (rest := [.int v12]) C (kX6_of l g a_m st now isKept hearers draft dHearers dWalls toldWinds tape taped pos frm sort value fault wrongAt landed landedIn stepped isThere isAt isNext landSum heardSum allWays ways drawn lanes sizes cells torn before p1 2 r22 hq23) (cwV0 C (inr18 _ (List.mem_of_getElem? (i := 14) rfl)) mwX6_of hdX6_of ⟨Nat.le_of_ble_eq_true rfl, Nat.le_of_ble_eq_true rfl⟩) hK w.1 rfl rfl rfl hl.1 rfl (Nat.le_of_ble_eq_true rfl) ⟨Nat.zero_le _, Nat.zero_le _⟩ (dk_at dkX6_flies 45 rfl) ?_
              obtain ⟨r24, hq25, hf⟩ := bd1_at hf
              refine r_st (As := [.int v12, .int r22]) (rest := []) C (kX6_beside l v12 r22 r24 hq25) (cwS0 C (inr25 _ (List.mem_of_getElem? (i := 17) rfl)) mwX6_beside hdX6_beside ⟨Nat.le_of_ble_eq_true rfl, Nat.le_of_ble_eq_true rfl⟩) rfl hl.1 rfl (Nat.le_of_ble_eq_true rfl) ⟨Nat.zero_le _, Nat.zero_le _⟩ (dk_at dkX6_flies 46 rfl) ?_
              refine lv_istore (lv' := [(5, .int r24), (4, .int x21), (3, .int v12), (2, .int y3), (0, .ref (a_m 0)), (1, .int p1)]) C.1 C.2.1 (dk_at dkX6_flies 47 rfl) hl (by decide) rfl (fun ls hl => ?_)
              refine lv_goto (tgt := 38) C.1 C.2.1 (dk_at dkX6_flies 48 rfl) (by decide) ?_
              exact ih r24 x21 v12 _ _ _ w (lv_sub hl [0, 1, 2, 3, 4, 5] rfl) hf
            · have hf := (if_pos c20).symm.trans hf
              refine lv_aload_n C.1 C.2.1 (dk_at dkX6_flies 34 rfl) rfl (lv_at hl 4 rfl) ?_
              refine lv_iload C.1 C.2.1 (dk_at dkX6_flies 35 rfl) (lv_at hl 0 rfl) ?_
              obtain ⟨r26, hq27, hf⟩ := bd1_at hf
              refine r_roV (As := [.int v12]) (rest := []) C (kX6_isWall l g a_m st now isKept hearers draft dHearers dWalls toldWinds tape taped pos frm sort value fault wrongAt landed landedIn stepped isThere isAt isNext landSum heardSum allWays ways drawn lanes sizes cells torn before v12 r26 hq27) (cwV0 C (inr20 _ (List.mem_of_getElem? (i := 2) rfl)) mwX6_isWall hdX6_isWall ⟨Nat.le_of_ble_eq_true rfl, Nat.le_of_ble_eq_true rfl⟩) hK w.1 rfl rfl rfl hl.1 rfl (Nat.le_of_ble_eq_true rfl) ⟨Nat.zero_le _, Nat.zero_le _⟩ (dk_at dkX6_flies 36 rfl) ?_
              refine lv_if_ne (tgt := 89) C.1 C.2.1 (dk_at dkX6_flies 37 rfl) (by decide) (fun c28 => ?_) (fun c28 => ?_)
              · have hf := (if_neg c28).symm.trans hf
                exact hKe v12 v13 v14 _ _ _ w (lv_sub hl [1, 2, 3, 4, 5] rfl) hf
              · have hf := (if_pos c28).symm.trans hf
                refine lv_iload C.1 C.2.1 (dk_at dkX6_flies 38 rfl) (lv_at hl 0 rfl) ?_
                refine lv_istore_n (lv' := [(3, .int v12), (5, .int v12), (4, .int v13), (2, .int y3), (0, .ref (a_m 0)), (1, .int p1)]) C.1 C.2.1 (dk_at dkX6_flies 39 rfl) rfl hl (by decide) rfl (fun ls hl => ?_)
                obtain ⟨x29, ex29⟩ : ∃ z : Int32, z = v13 + 1 := ⟨_, rfl⟩
                have hf := nm_at ex29 hf
                refine lv_iinc (v := x29) (lv' := [(4, .int x29), (3, .int v12), (5, .int v12), (2, .int y3), (0, .ref (a_m 0)), (1, .int p1)]) C.1 C.2.1 (dk_at dkX6_flies 40 rfl) hl (k := 2) rfl (by rw [ex29]; rfl) (by decide) rfl (fun ls hl => ?_)
                refine lv_iload_n C.1 C.2.1 (dk_at dkX6_flies 41 rfl) rfl (lv_at hl 1 rfl) ?_
                refine lv_aload_n C.1 C.2.1 (dk_at dkX6_flies 42 rfl) rfl (lv_at hl 4 rfl) ?_
                refine lv_iload_n C.1 C.2.1 (dk_at dkX6_flies 43 rfl) rfl (lv_at hl 5 rfl) ?_
                refine lv_iconst (v := 2) C.1 C.2.1 (dk_at dkX6_flies 44 rfl) (by decide) ?_
                obtain ⟨r30, hq31, hf⟩ := bd1_at hf
                refine r_roV (As := [.int p1, .int 2]) (rest := [.int v12]) C (kX6_of l g a_m st now isKept hearers draft dHearers dWalls toldWinds tape taped pos frm sort value fault wrongAt landed landedIn stepped isThere isAt isNext landSum heardSum allWays ways drawn lanes sizes cells torn before p1 2 r30 hq31) (cwV0 C (inr18 _ (List.mem_of_getElem? (i := 14) rfl)) mwX6_of hdX6_of ⟨Nat.le_of_ble_eq_true rfl, Nat.le_of_ble_eq_true rfl⟩) hK w.1 rfl rfl rfl hl.1 rfl (Nat.le_of_ble_eq_true rfl) ⟨Nat.zero_le _, Nat.zero_le _⟩ (dk_at dkX6_flies 45 rfl) ?_
                obtain ⟨r32, hq33, hf⟩ := bd1_at hf
                refine r_st (As := [.int v12, .int r30]) (rest := []) C (kX6_beside l v12 r30 r32 hq33) (cwS0 C (inr25 _ (List.mem_of_getElem? (i := 17) rfl)) mwX6_beside hdX6_beside ⟨Nat.le_of_ble_eq_true rfl, Nat.le_of_ble_eq_true rfl⟩) rfl hl.1 rfl (Nat.le_of_ble_eq_true rfl) ⟨Nat.zero_le _, Nat.zero_le _⟩ (dk_at dkX6_flies 46 rfl) ?_
                refine lv_istore (lv' := [(5, .int r32), (4, .int x29), (3, .int v12), (2, .int y3), (0, .ref (a_m 0)), (1, .int p1)]) C.1 C.2.1 (dk_at dkX6_flies 47 rfl) hl (by decide) rfl (fun ls hl => ?_)
                refine lv_goto (tgt := 38) C.1 C.2.1 (dk_at dkX6_flies 48 rfl) (by decide) ?_
                exact ih r32 x29 v12 _ _ _ w (lv_sub hl [0, 1, 2, 3, 4, 5] rfl) hf
    refine L15 _ ?_ 4096 r10 0 r6 _ _ _ w (lv_sub hl [0, 1, 2, 3, 4, 5] rfl) hf
    clear hf
    intro v12 v13 v14 H locs ls w hl hf
    refine lv_aload_n C.1 C.2.1 (dk_at dkX6_flies 49 rfl) rfl (lv_at hl 3 rfl) ?_
    refine lv_iload_n C.1 C.2.1 (dk_at dkX6_flies 50 rfl) rfl (lv_at hl 4 rfl) ?_
    refine lv_iconst (v := 4) C.1 C.2.1 (dk_at dkX6_flies 51 rfl) (by decide) ?_
    obtain ⟨r34, hq35, hf⟩ := bd1_at hf
    refine r_roV (As := [.int p1, .int 4]) (rest := []) C (kX6_of l g a_m st now isKept hearers draft dHearers dWalls toldWinds tape taped pos frm sort value fault wrongAt landed landedIn stepped isThere isAt isNext landSum heardSum allWays ways drawn lanes sizes cells torn before p1 4 r34 hq35) (cwV0 C (inr18 _ (List.mem_of_getElem? (i := 14) rfl)) mwX6_of hdX6_of ⟨Nat.le_of_ble_eq_true rfl, Nat.le_of_ble_eq_true rfl⟩) hK w.1 rfl rfl rfl hl.1 rfl (Nat.le_of_ble_eq_true rfl) ⟨Nat.zero_le _, Nat.zero_le _⟩ (dk_at dkX6_flies 52 rfl) ?_
    refine lv_iload C.1 C.2.1 (dk_at dkX6_flies 53 rfl) (lv_at hl 0 rfl) ?_
    refine lv_iconst (v := 2) C.1 C.2.1 (dk_at dkX6_flies 54 rfl) (by decide) ?_
    refine lv_idiv C.1 C.2.1 (dk_at dkX6_flies 55 rfl) (by decide) ?_
    refine lv_iadd C.1 C.2.1 (dk_at dkX6_flies 56 rfl) ?_
    refine lv_topi (fun x36 ex36 => ?_)
    have hf := nm_at ex36 hf
    refine lv_istore (lv' := [(6, .int x36), (4, .int v13), (3, .int v14), (2, .int y3), (0, .ref (a_m 0)), (1, .int p1)]) C.1 C.2.1 (dk_at dkX6_flies 57 rfl) hl (by decide) rfl (fun ls hl => ?_)
    refine lv_iload C.1 C.2.1 (dk_at dkX6_flies 58 rfl) (lv_at hl 0 rfl) ?_
    refine lv_bipush (v := 9) C.1 C.2.1 (dk_at dkX6_flies 59 rfl) (by decide) ?_
    obtain ⟨y37, hq38, hf⟩ := bd1_at hf
    have J39 : ∀ (H : Heap) (locs : List Loc) (ls : Array Slot), Wd g A Z.heap (wM g a_m st now isKept hearers draft dHearers dWalls toldWinds tape taped pos frm sort value fault wrongAt landed landedIn stepped isThere isAt isNext landSum heardSum allWays ways drawn lanes sizes cells torn before) H locs → lv_has ls 8 [(4, .int v13), (3, .int v14), (2, .int y3), (0, .ref (a_m 0)), (1, .int p1)] → W P l E rmX6_flies Z Mi AR BE ME CO H locs 0 0 Q (F0 Mi 116 ls [.int y37]) := by
      intro H locs ls w hl
      refine lv_istore (lv' := [(6, .int y37), (4, .int v13), (3, .int v14), (2, .int y3), (0, .ref (a_m 0)), (1, .int p1)]) C.1 C.2.1 (dk_at dkX6_flies 64 rfl) hl (by decide) rfl (fun ls hl => ?_)
      refine lv_aload_n C.1 C.2.1 (dk_at dkX6_flies 65 rfl) rfl (lv_at hl 4 rfl) ?_
      refine r_get (v := .ref (a_m 2)) C hK w.1 (fun w h => List.mem_cons_of_mem _ (inlX6 w h)) 0 rfl rfl 1 (by decide) (List.mem_cons_of_mem _ (inr4 _ (List.mem_of_getElem? (i := 5) rfl))) rfl (dk_at dkX6_flies 66 rfl) ?_
      refine lv_bipush (v := 8) C.1 C.2.1 (dk_at dkX6_flies 67 rfl) (by decide) ?_
      refine lv_iload C.1 C.2.1 (dk_at dkX6_flies 68 rfl) (lv_at hl 0 rfl) ?_
      refine lv_iadd C.1 C.2.1 (dk_at dkX6_flies 69 rfl) ?_
      refine lv_topi (fun x40 ex40 => ?_)
      have hf := nm_at ex40 hf
      obtain ⟨h41, hf⟩ := gd_at hf
      refine r_iald (k := x40.toNatClampNeg) (f := now) C hK w.1 2 rfl h41 rfl (dk_at dkX6_flies 70 rfl) ?_
      refine lv_topi (fun x42 ex42 => ?_)
      have hf := nm_at ex42 hf
      refine lv_iconst (v := 4) C.1 C.2.1 (dk_at dkX6_flies 71 rfl) (by decide) ?_
      obtain ⟨y43, hq44, hf⟩ := bd1_at hf
      have J45 : ∀ (H : Heap) (locs : List Loc) (ls : Array Slot), Wd g A Z.heap (wM g a_m st now isKept hearers draft dHearers dWalls toldWinds tape taped pos frm sort value fault wrongAt landed landedIn stepped isThere isAt isNext landSum heardSum allWays ways drawn lanes sizes cells torn before) H locs → lv_has ls 8 [(6, .int y37), (4, .int v13), (3, .int v14), (2, .int y3), (0, .ref (a_m 0)), (1, .int p1)] → W P l E rmX6_flies Z Mi AR BE ME CO H locs 0 0 Q (F0 Mi 151 ls [.int y43]) := by
        intro H locs ls w hl
        refine lv_istore (lv' := [(7, .int y43), (6, .int y37), (4, .int v13), (3, .int v14), (2, .int y3), (0, .ref (a_m 0)), (1, .int p1)]) C.1 C.2.1 (dk_at dkX6_flies 83 rfl) hl (by decide) rfl (fun ls hl => ?_)
        refine lv_aload_n C.1 C.2.1 (dk_at dkX6_flies 84 rfl) rfl (lv_at hl 5 rfl) ?_
        refine r_get (v := .ref (a_m 6)) C hK w.1 (fun w h => List.mem_cons_of_mem _ (inlX6 w h)) 0 rfl rfl 16 (by decide) (List.mem_cons_of_mem _ (inr4 _ (List.mem_of_getElem? (i := 9) rfl))) rfl (dk_at dkX6_flies 85 rfl) ?_
        refine lv_iload_n C.1 C.2.1 (dk_at dkX6_flies 86 rfl) rfl (lv_at hl 6 rfl) ?_
        refine lv_iload C.1 C.2.1 (dk_at dkX6_flies 87 rfl) (lv_at hl 0 rfl) ?_
        refine lv_bipush (v := (-4)) C.1 C.2.1 (dk_at dkX6_flies 88 rfl) (by decide) ?_
        obtain ⟨y46, hq47, hf⟩ := bd1_at hf
        have J48 : ∀ (H : Heap) (locs : List Loc) (ls : Array Slot), Wd g A Z.heap (wM g a_m st now isKept hearers draft dHearers dWalls toldWinds tape taped pos frm sort value fault wrongAt landed landedIn stepped isThere isAt isNext landSum heardSum allWays ways drawn lanes sizes cells torn before) H locs → lv_has ls 8 [(6, .int y37), (4, .int v13), (0, .ref (a_m 0)), (1, .int p1)] → W P l E rmX6_flies Z Mi AR BE ME CO H locs 0 0 Q (F0 Mi 184 ls [.int y46, .int p1, .ref (a_m 6)]) := by
          intro H locs ls w hl
          obtain ⟨h49, hf⟩ := gd_at hf
          refine r_iast (k := p1.toNatClampNeg) (f := landed) C hK w 6 rfl h49 rfl (dk_at dkX6_flies 99 rfl) (fun H locs w => ?_)
          obtain ⟨landed_50, elanded_50⟩ : ∃ z : AI, z = upd landed p1.toNatClampNeg y46 := ⟨_, rfl⟩
          have hf := nm_at elanded_50 hf
          have w : Wd g A Z.heap (wM g a_m st now isKept hearers draft dHearers dWalls toldWinds tape taped pos frm sort value fault wrongAt landed_50 landedIn stepped isThere isAt isNext landSum heardSum allWays ways drawn lanes sizes cells torn before) H locs := by rw [elanded_50]; exact w
          refine lv_aload_n C.1 C.2.1 (dk_at dkX6_flies 100 rfl) rfl (lv_at hl 2 rfl) ?_
          refine r_get (v := .ref (a_m 7)) C hK w.1 (fun w h => List.mem_cons_of_mem _ (inlX6 w h)) 0 rfl rfl 17 (by decide) (List.mem_cons_of_mem _ (inr4 _ (List.mem_of_getElem? (i := 10) rfl))) rfl (dk_at dkX6_flies 101 rfl) ?_
          refine lv_iload_n C.1 C.2.1 (dk_at dkX6_flies 102 rfl) rfl (lv_at hl 3 rfl) ?_
          refine lv_iload C.1 C.2.1 (dk_at dkX6_flies 103 rfl) (lv_at hl 0 rfl) ?_
          obtain ⟨h51, hf⟩ := gd_at hf
          refine r_iast (k := p1.toNatClampNeg) (f := landedIn) C hK w 7 rfl h51 rfl (dk_at dkX6_flies 104 rfl) (fun H locs w => ?_)
          obtain ⟨landedIn_52, elandedIn_52⟩ : ∃ z : AI, z = upd landedIn p1.toNatClampNeg y37 := ⟨_, rfl⟩
          have hf := nm_at elandedIn_52 hf
          have w : Wd g A Z.heap (wM g a_m st now isKept hearers draft dHearers dWalls toldWinds tape taped pos frm sort value fault wrongAt landed_50 landedIn_52 stepped isThere isAt isNext landSum heardSum allWays ways drawn lanes sizes cells torn before) H locs := by rw [elandedIn_52]; exact w
          refine lv_aload_n C.1 C.2.1 (dk_at dkX6_flies 105 rfl) rfl (lv_at hl 2 rfl) ?_
          refine r_get (v := .ref (a_m 8)) C hK w.1 (fun w h => List.mem_cons_of_mem _ (inlX6 w h)) 0 rfl rfl 18 (by decide) (List.mem_cons_of_mem _ (inr4 _ (List.mem_of_getElem? (i := 11) rfl))) rfl (dk_at dkX6_flies 106 rfl) ?_
          refine lv_iload_n C.1 C.2.1 (dk_at dkX6_flies 107 rfl) rfl (lv_at hl 3 rfl) ?_
          refine lv_iload C.1 C.2.1 (dk_at dkX6_flies 108 rfl) (lv_at hl 1 rfl) ?_
          obtain ⟨h53, hf⟩ := gd_at hf
          refine r_iast (k := p1.toNatClampNeg) (f := stepped) C hK w 8 rfl h53 rfl (dk_at dkX6_flies 109 rfl) (fun H locs w => ?_)
          obtain ⟨stepped_54, estepped_54⟩ : ∃ z : AI, z = upd stepped p1.toNatClampNeg v13 := ⟨_, rfl⟩
          have hf := nm_at estepped_54 hf
          have w : Wd g A Z.heap (wM g a_m st now isKept hearers draft dHearers dWalls toldWinds tape taped pos frm sort value fault wrongAt landed_50 landedIn_52 stepped_54 isThere isAt isNext landSum heardSum allWays ways drawn lanes sizes cells torn before) H locs := by rw [estepped_54]; exact w
          refine lv_aload_n C.1 C.2.1 (dk_at dkX6_flies 110 rfl) rfl (lv_at hl 2 rfl) ?_
          refine lv_iload_n C.1 C.2.1 (dk_at dkX6_flies 111 rfl) rfl (lv_at hl 3 rfl) ?_
          refine lv_iconst (v := 0) C.1 C.2.1 (dk_at dkX6_flies 112 rfl) (by decide) ?_
          obtain ⟨r55, hq56, hf⟩ := bd1_at hf
          refine r_roV (As := [.int p1, .int 0]) (rest := []) C (kX6_of l g a_m st now isKept hearers draft dHearers dWalls toldWinds tape taped pos frm sort value fault wrongAt landed_50 landedIn_52 stepped_54 isThere isAt isNext landSum heardSum allWays ways drawn lanes sizes cells torn before p1 0 r55 hq56) (cwV0 C (inr18 _ (List.mem_of_getElem? (i := 14) rfl)) mwX6_of hdX6_of ⟨Nat.le_of_ble_eq_true rfl, Nat.le_of_ble_eq_true rfl⟩) hK w.1 rfl rfl rfl hl.1 rfl (Nat.le_of_ble_eq_true rfl) ⟨Nat.zero_le _, Nat.zero_le _⟩ (dk_at dkX6_flies 113 rfl) ?_
          refine lv_iconst (v := 2) C.1 C.2.1 (dk_at dkX6_flies 114 rfl) (by decide) ?_
          refine lv_icmp_ne (tgt := 248) C.1 C.2.1 (dk_at dkX6_flies 115 rfl) (by decide) (fun c57 => ?_) (fun c57 => ?_)
          · have hf := (if_neg c57).symm.trans hf
            cases hf
            exact fin _ _ _ _ (dk_at dkX6_flies 140 rfl) w
          · have hf := (if_pos c57).symm.trans hf
            refine lv_aload_n C.1 C.2.1 (dk_at dkX6_flies 116 rfl) rfl (lv_at hl 2 rfl) ?_
            obtain ⟨r58, hq59, hf⟩ := bd1_at hf
            refine r_roV (As := []) (rest := []) C (kX6_walls l g a_m st now isKept hearers draft dHearers dWalls toldWinds tape taped pos frm sort value fault wrongAt landed_50 landedIn_52 stepped_54 isThere isAt isNext landSum heardSum allWays ways drawn lanes sizes cells torn before r58 hq59) (cwV0 C (inr17 _ (List.mem_of_getElem? (i := 10) rfl)) mwX6_walls hdX6_walls ⟨Nat.le_of_ble_eq_true rfl, Nat.le_of_ble_eq_true rfl⟩) hK w.1 rfl rfl rfl hl.1 rfl (Nat.le_of_ble_eq_true rfl) ⟨Nat.zero_le _, Nat.zero_le _⟩ (dk_at dkX6_flies 117 rfl) ?_
            refine lv_bipush (v := 12) C.1 C.2.1 (dk_at dkX6_flies 118 rfl) (by decide) ?_
            refine lv_icmp_ge (tgt := 248) C.1 C.2.1 (dk_at dkX6_flies 119 rfl) (by decide) (fun c60 => ?_) (fun c60 => ?_)
            · have hf := (if_pos c60).symm.trans hf
              cases hf
              exact fin _ _ _ _ (dk_at dkX6_flies 140 rfl) w
            · have hf := (if_neg c60).symm.trans hf
              refine lv_aload_n C.1 C.2.1 (dk_at dkX6_flies 120 rfl) rfl (lv_at hl 2 rfl) ?_
              refine r_get (v := .ref (a_m 2)) C hK w.1 (fun w h => List.mem_cons_of_mem _ (inlX6 w h)) 0 rfl rfl 1 (by decide) (List.mem_cons_of_mem _ (inr4 _ (List.mem_of_getElem? (i := 5) rfl))) rfl (dk_at dkX6_flies 121 rfl) ?_
              refine lv_aload_n C.1 C.2.1 (dk_at dkX6_flies 122 rfl) rfl (lv_at hl 2 rfl) ?_
              refine r_get (v := .ref (a_m 6)) C hK w.1 (fun w h => List.mem_cons_of_mem _ (inlX6 w h)) 0 rfl rfl 16 (by decide) (List.mem_cons_of_mem _ (inr4 _ (List.mem_of_getElem? (i := 9) rfl))) rfl (dk_at dkX6_flies 123 rfl) ?_
              refine lv_iload_n C.1 C.2.1 (dk_at dkX6_flies 124 rfl) rfl (lv_at hl 3 rfl) ?_
              obtain ⟨h61, hf⟩ := gd_at hf
              refine r_iald (k := p1.toNatClampNeg) (f := landed_50) C hK w.1 6 rfl h61 rfl (dk_at dkX6_flies 125 rfl) ?_
              refine lv_topi (fun x62 ex62 => ?_)
              have hf := nm_at ex62 hf
              refine lv_bipush (v := 10) C.1 C.2.1 (dk_at dkX6_flies 126 rfl) (by decide) ?_
              refine lv_idiv C.1 C.2.1 (dk_at dkX6_flies 127 rfl) (by decide) ?_
              refine lv_topi (fun x63 ex63 => ?_)
              have hf := nm_at ex63 hf
              refine lv_dup2_11 C.1 C.2.1 (dk_at dkX6_flies 128 rfl) rfl rfl ?_
              obtain ⟨h64, hf⟩ := gd_at hf
              refine r_iald (k := x63.toNatClampNeg) (f := now) C hK w.1 2 rfl h64 rfl (dk_at dkX6_flies 129 rfl) ?_
              refine lv_topi (fun x65 ex65 => ?_)
              have hf := nm_at ex65 hf
              refine lv_iconst (v := 1) C.1 C.2.1 (dk_at dkX6_flies 130 rfl) (by decide) ?_
              refine lv_aload_n C.1 C.2.1 (dk_at dkX6_flies 131 rfl) rfl (lv_at hl 2 rfl) ?_
              refine r_get (v := .ref (a_m 6)) C hK w.1 (fun w h => List.mem_cons_of_mem _ (inlX6 w h)) 0 rfl rfl 16 (by decide) (List.mem_cons_of_mem _ (inr4 _ (List.mem_of_getElem? (i := 9) rfl))) rfl (dk_at dkX6_flies 132 rfl) ?_
              refine lv_iload_n C.1 C.2.1 (dk_at dkX6_flies 133 rfl) rfl (lv_at hl 3 rfl) ?_
              obtain ⟨h66, hf⟩ := gd_at hf
              refine r_iald (k := p1.toNatClampNeg) (f := landed_50) C hK w.1 6 rfl h66 rfl (dk_at dkX6_flies 134 rfl) ?_
              refine lv_topi (fun x67 ex67 => ?_)
              have hf := nm_at ex67 hf
              refine lv_bipush (v := 10) C.1 C.2.1 (dk_at dkX6_flies 135 rfl) (by decide) ?_
              refine lv_irem C.1 C.2.1 (dk_at dkX6_flies 136 rfl) (by decide) ?_
              refine lv_ishl C.1 C.2.1 (dk_at dkX6_flies 137 rfl) ?_
              refine lv_ior C.1 C.2.1 (dk_at dkX6_flies 138 rfl) ?_
              refine lv_topi (fun x68 ex68 => ?_)
              have hf := nm_at ex68 hf
              obtain ⟨h69, hf⟩ := gd_at hf
              refine r_iast (k := x63.toNatClampNeg) (f := now) C hK w 2 rfl h69 rfl (dk_at dkX6_flies 139 rfl) (fun H locs w => ?_)
              obtain ⟨now_70, enow_70⟩ : ∃ z : AI, z = upd now x63.toNatClampNeg x68 := ⟨_, rfl⟩
              have hf := nm_at enow_70 hf
              have w : Wd g A Z.heap (wM g a_m st now_70 isKept hearers draft dHearers dWalls toldWinds tape taped pos frm sort value fault wrongAt landed_50 landedIn_52 stepped_54 isThere isAt isNext landSum heardSum allWays ways drawn lanes sizes cells torn before) H locs := by rw [enow_70]; exact w
              cases hf
              exact fin _ _ _ _ (dk_at dkX6_flies 140 rfl) w
        clear hf
        have hf := hq47
        refine lv_icmp_eq (tgt := 183) C.1 C.2.1 (dk_at dkX6_flies 89 rfl) (by decide) (fun c71 => ?_) (fun c71 => ?_)
        · have hf := (if_pos c71).symm.trans hf
          refine lv_iload_n C.1 C.2.1 (dk_at dkX6_flies 98 rfl) rfl (lv_at hl 3 rfl) ?_
          cases hf
          exact J48 _ _ _ w (lv_sub hl [1, 2, 5, 6] rfl)
        · have hf := (if_neg c71).symm.trans hf
          refine lv_iload_n C.1 C.2.1 (dk_at dkX6_flies 90 rfl) rfl (lv_at hl 4 rfl) ?_
          refine lv_if_ne (tgt := 178) C.1 C.2.1 (dk_at dkX6_flies 91 rfl) (by decide) (fun c72 => ?_) (fun c72 => ?_)
          · have hf := (if_neg c72).symm.trans hf
            refine lv_iload C.1 C.2.1 (dk_at dkX6_flies 96 rfl) (lv_at hl 0 rfl) ?_
            refine lv_goto (tgt := 184) C.1 C.2.1 (dk_at dkX6_flies 97 rfl) (by decide) ?_
            cases hf
            exact J48 _ _ _ w (lv_sub hl [1, 2, 5, 6] rfl)
          · have hf := (if_pos c72).symm.trans hf
            refine lv_aload_n C.1 C.2.1 (dk_at dkX6_flies 92 rfl) rfl (lv_at hl 5 rfl) ?_
            refine lv_iload C.1 C.2.1 (dk_at dkX6_flies 93 rfl) (lv_at hl 0 rfl) ?_
            obtain ⟨r73, hq74, hf⟩ := bd1_at hf
            refine r_roV (As := [.int y43]) (rest := [.int p1, .ref (a_m 6)]) C (kX6_isWall l g a_m st now isKept hearers draft dHearers dWalls toldWinds tape taped pos frm sort value fault wrongAt landed landedIn stepped isThere isAt isNext landSum heardSum allWays ways drawn lanes sizes cells torn before y43 r73 hq74) (cwV0 C (inr20 _ (List.mem_of_getElem? (i := 2) rfl)) mwX6_isWall hdX6_isWall ⟨Nat.le_of_ble_eq_true rfl, Nat.le_of_ble_eq_true rfl⟩) hK w.1 rfl rfl rfl hl.1 rfl (Nat.le_of_ble_eq_true rfl) ⟨Nat.zero_le _, Nat.zero_le _⟩ (dk_at dkX6_flies 94 rfl) ?_
            refine lv_if_ne (tgt := 183) C.1 C.2.1 (dk_at dkX6_flies 95 rfl) (by decide) (fun c75 => ?_) (fun c75 => ?_)
            · have hf := (if_neg c75).symm.trans hf
              refine lv_iload_n C.1 C.2.1 (dk_at dkX6_flies 98 rfl) rfl (lv_at hl 3 rfl) ?_
              cases hf
              exact J48 _ _ _ w (lv_sub hl [1, 2, 5, 6] rfl)
            · have hf := (if_pos c75).symm.trans hf
              refine lv_iload C.1 C.2.1 (dk_at dkX6_flies 96 rfl) (lv_at hl 0 rfl) ?_
              refine lv_goto (tgt := 184) C.1 C.2.1 (dk_at dkX6_flies 97 rfl) (by decide) ?_
              cases hf
              exact J48 _ _ _ w (lv_sub hl [1, 2, 5, 6] rfl)
      clear hf
      have hf := hq44
      refine lv_icmp_ne (tgt := 137) C.1 C.2.1 (dk_at dkX6_flies 72 rfl) (by decide) (fun c76 => ?_) (fun c76 => ?_)
      · have hf := (if_neg c76).symm.trans hf
        refine lv_iload_n C.1 C.2.1 (dk_at dkX6_flies 75 rfl) rfl (lv_at hl 2 rfl) ?_
        refine lv_aload_n C.1 C.2.1 (dk_at dkX6_flies 76 rfl) rfl (lv_at hl 4 rfl) ?_
        refine r_get (v := .ref (a_m 2)) C hK w.1 (fun w h => List.mem_cons_of_mem _ (inlX6 w h)) 0 rfl rfl 1 (by decide) (List.mem_cons_of_mem _ (inr4 _ (List.mem_of_getElem? (i := 5) rfl))) rfl (dk_at dkX6_flies 77 rfl) ?_
        refine lv_bipush (v := 8) C.1 C.2.1 (dk_at dkX6_flies 78 rfl) (by decide) ?_
        refine lv_iload C.1 C.2.1 (dk_at dkX6_flies 79 rfl) (lv_at hl 0 rfl) ?_
        refine lv_iadd C.1 C.2.1 (dk_at dkX6_flies 80 rfl) ?_
        refine lv_topi (fun x77 ex77 => ?_)
        have hf := nm_at ex77 hf
        obtain ⟨h78, hf⟩ := gd_at hf
        refine r_iald (k := x77.toNatClampNeg) (f := now) C hK w.1 2 rfl h78 rfl (dk_at dkX6_flies 81 rfl) ?_
        refine lv_topi (fun x79 ex79 => ?_)
        have hf := nm_at ex79 hf
        obtain ⟨r80, hq81, hf⟩ := bd1_at hf
        refine r_st (As := [.int v14, .int x79]) (rest := []) C (kX6_beside l v14 x79 r80 hq81) (cwS0 C (inr25 _ (List.mem_of_getElem? (i := 17) rfl)) mwX6_beside hdX6_beside ⟨Nat.le_of_ble_eq_true rfl, Nat.le_of_ble_eq_true rfl⟩) rfl hl.1 rfl (Nat.le_of_ble_eq_true rfl) ⟨Nat.zero_le _, Nat.zero_le _⟩ (dk_at dkX6_flies 82 rfl) ?_
        cases hf
        exact J45 _ _ _ w (lv_sub hl [0, 1, 2, 3, 4, 5] rfl)
      · have hf := (if_pos c76).symm.trans hf
        refine lv_bipush (v := (-4)) C.1 C.2.1 (dk_at dkX6_flies 73 rfl) (by decide) ?_
        refine lv_goto (tgt := 151) C.1 C.2.1 (dk_at dkX6_flies 74 rfl) (by decide) ?_
        cases hf
        exact J45 _ _ _ w (lv_sub hl [0, 1, 2, 3, 4, 5] rfl)
    clear hf
    have hf := hq38
    refine lv_icmp_le (tgt := 114) C.1 C.2.1 (dk_at dkX6_flies 60 rfl) (by decide) (fun c82 => ?_) (fun c82 => ?_)
    · have hf := (if_pos c82).symm.trans hf
      refine lv_iload C.1 C.2.1 (dk_at dkX6_flies 63 rfl) (lv_at hl 0 rfl) ?_
      cases hf
      exact J39 _ _ _ w (lv_sub hl [1, 2, 3, 4, 5] rfl)
    · have hf := (if_neg c82).symm.trans hf
      refine lv_bipush (v := 9) C.1 C.2.1 (dk_at dkX6_flies 61 rfl) (by decide) ?_
      refine lv_goto (tgt := 116) C.1 C.2.1 (dk_at dkX6_flies 62 rfl) (by decide) ?_
      cases hf
      exact J39 _ _ _ w (lv_sub hl [1, 2, 3, 4, 5] rfl)
  clear hf
  have hf := hq4
  refine lv_icmp_ne (tgt := 14) C.1 C.2.1 (dk_at dkX6_flies 5 rfl) (by decide) (fun c83 => ?_) (fun c83 => ?_)
  · have hf := (if_neg c83).symm.trans hf
    refine lv_iconst (v := 0) C.1 C.2.1 (dk_at dkX6_flies 8 rfl) (by decide) ?_
    cases hf
    exact J5 _ _ _ w (lv_sub hl [0, 1] rfl)
  · have hf := (if_pos c83).symm.trans hf
    refine lv_iconst (v := 1) C.1 C.2.1 (dk_at dkX6_flies 6 rfl) (by decide) ?_
    refine lv_goto (tgt := 15) C.1 C.2.1 (dk_at dkX6_flies 7 rfl) (by decide) ?_
    cases hf
    exact J5 _ _ _ w (lv_sub hl [0, 1] rfl)
-- X6.dayGoes
abbrev tbX6_dayGoes : List (Nat × Instr × Nat) := [(0, .iconst 0, 1), (1, .istore_n 1, 1), (2, .iload_n 1, 1), (3, .bipush 10, 2), (5, .if_icmp .ge 43, 3), (8, .iconst 0, 1), (9, .istore_n 2, 1), (10, .iload_n 2, 1), (11, .aload_n 0, 1), (12, .getfield 13, 3), (15, .bipush 43, 2), (17, .iaload, 1), (18, .if_icmp .ge 24, 3), (21, .aload_n 0, 1), (22, .iload_n 2, 1), (23, .iconst 4, 1), (24, .invokevirtual 181, 3), (27, .iload_n 1, 1), (28, .if_icmp .ne 8, 3), (31, .aload_n 0, 1), (32, .iload_n 2, 1), (33, .invokevirtual 198, 3), (36, .iinc 2 1, 3), (39, .goto (-29), 3), (42, .iinc 1 1, 3), (45, .goto (-43), 3), (48, .return_, 1)]
theorem dkX6_dayGoes : dk cX6_dayGoes tbX6_dayGoes := dk_of (by decide +kernel)
abbrev cdX6_dayGoes : Cond := Cond.code yX6_dayGoes cX6_dayGoes 3 none
abbrev rmX6_dayGoes : Room := { frames := 3, cells := 0, slots := 0, locals := 75 }
theorem mwX6_dayGoes : Cond.instanceMethod yX6_dayGoes ∈ wsL_law ∧ Cond.selects RX6 yX6_dayGoes yX6_dayGoes ∈ wsL_law ∧ Cond.initialized RX6 ∈ wsL_law ∧ cdX6_dayGoes ∈ wsL_law := ⟨inr25 _ (List.mem_of_getElem? (i := 10) rfl), inr25 _ (List.mem_of_getElem? (i := 11) rfl), inr1 _ (List.mem_of_getElem? (i := 5) rfl), inr25 _ (List.mem_of_getElem? (i := 12) rfl)⟩
theorem hdX6_dayGoes : yX6_dayGoes.cls = RX6 ∧ yX6_dayGoes.cls ≠ "java/lang/invoke/MethodHandle" ∧ yX6_dayGoes.cls ≠ "java/lang/invoke/VarHandle" ∧ (parseMethodDescriptor yX6_dayGoes.desc).map (fun d => d.parameters.length) = some 0 := by decide +kernel
set_option maxHeartbeats 4000000 in
set_option maxRecDepth 100000 in
theorem kX6_dayGoes (l : Launch) (g : Gx) (sz : Nat) (a_m : Nat → Nat) (st : AI) (now : AI) (isKept : AI) (hearers : Int32) (draft : AI) (dHearers : Int32) (dWalls : Int32) (toldWinds : Int32) (tape : AI) (taped : Int32) (pos : Int32) (frm : Int32) (sort : Int32) (value : Int32) (fault : Int32) (wrongAt : Int32) (landed : AI) (landedIn : AI) (stepped : AI) (isThere : AI) (isAt : AI) (isNext : AI) (landSum : Int64) (heardSum : Int64) (allWays : Int64) (ways : AI) (drawn : AI) (lanes : AI) (sizes : AI) (cells : AI) (torn : Int32) (before : AI) (now_o : AI) (landed_o : AI) (landedIn_o : AI) (stepped_o : AI) (hf : fX6_dayGoes now landed landedIn stepped = some (now_o, landed_o, landedIn_o, stepped_o)) : Met l yX6_dayGoes (cdX6_dayGoes :: wsL_law) rmX6_dayGoes (va_Pc [.ref (a_m 0)] (RWp g sz (wM g a_m st now isKept hearers draft dHearers dWalls toldWinds tape taped pos frm sort value fault wrongAt landed landedIn stepped isThere isAt isNext landSum heardSum allWays ways drawn lanes sizes cells torn before))) (va_Qv (fun _ : Unit => True) (fun _ => RWq g (va_A (wM g a_m st now isKept hearers draft dHearers dWalls toldWinds tape taped pos frm sort value fault wrongAt landed landedIn stepped isThere isAt isNext landSum heardSum allWays ways drawn lanes sizes cells torn before) sz) (wM g a_m st now_o isKept hearers draft dHearers dWalls toldWinds tape taped pos frm sort value fault wrongAt landed_o landedIn_o stepped_o isThere isAt isNext landSum heardSum allWays ways drawn lanes sizes cells torn before)) (va_A (wM g a_m st now isKept hearers draft dHearers dWalls toldWinds tape taped pos frm sort value fault wrongAt landed landedIn stepped isThere isAt isNext landSum heardSum allWays ways drawn lanes sizes cells torn before) sz)) 0 0 (va_A (wM g a_m st now isKept hearers draft dHearers dWalls toldWinds tape taped pos frm sort value fault wrongAt landed landedIn stepped isThere isAt isNext landSum heardSum allWays ways drawn lanes sizes cells torn before) sz) := by
  refine Met_rwv (cc := cX6_dayGoes) (maxL := 3) (by decide) rfl (Nat.le_of_ble_eq_true rfl) ?_
  intro P E Z Mi AR BE ME CO A Q C hK hA fin w ls hl
  have hl : lv_has ls 3 [(0, .ref (a_m 0))] := hl
  unfold fX6_dayGoes at hf
  refine lv_iconst (v := 0) C.1 C.2.1 (dk_at dkX6_dayGoes 0 rfl) (by decide) ?_
  refine lv_istore_n (lv' := [(1, .int 0), (0, .ref (a_m 0))]) C.1 C.2.1 (dk_at dkX6_dayGoes 1 rfl) rfl hl (by decide) rfl (fun ls hl => ?_)
  have L6 : ∀ (K : Int32 → AI → AI → AI → AI → Option (AI × AI × AI × AI)), (∀ (v1 : Int32) (now_2 : AI) (landed_3 : AI) (landedIn_4 : AI) (stepped_5 : AI) (H : Heap) (locs : List Loc) (ls : Array Slot), Wd g A Z.heap (wM g a_m st now_2 isKept hearers draft dHearers dWalls toldWinds tape taped pos frm sort value fault wrongAt landed_3 landedIn_4 stepped_5 isThere isAt isNext landSum heardSum allWays ways drawn lanes sizes cells torn before) H locs → lv_has ls 3 [] → K v1 now_2 landed_3 landedIn_4 stepped_5 = some (now_o, landed_o, landedIn_o, stepped_o) → W P l E rmX6_dayGoes Z Mi AR BE ME CO H locs 0 0 Q (F0 Mi 48 ls [])) → ∀ (n : Nat), ∀ (v1 : Int32) (now_2 : AI) (landed_3 : AI) (landedIn_4 : AI) (stepped_5 : AI) (H : Heap) (locs : List Loc) (ls : Array Slot), Wd g A Z.heap (wM g a_m st now_2 isKept hearers draft dHearers dWalls toldWinds tape taped pos frm sort value fault wrongAt landed_3 landedIn_4 stepped_5 isThere isAt isNext landSum heardSum allWays ways drawn lanes sizes cells torn before) H locs → lv_has ls 3 [(1, .int v1), (0, .ref (a_m 0))] → fX6_dayGoes_L2 K n v1 now_2 landed_3 landedIn_4 stepped_5 = some (now_o, landed_o, landedIn_o, stepped_o) → W P l E rmX6_dayGoes Z Mi AR BE ME CO H locs 0 0 Q (F0 Mi 2 ls []) := by
    intro K hKe n
    induction n with
    | zero => intro v1 now_2 landed_3 landedIn_4 stepped_5 H locs ls w hl hf; cases hf
    | succ n ih =>
      intro v1 now_2 landed_3 landedIn_4 stepped_5 H locs ls w hl hf
      rw [fX6_dayGoes_L2] at hf
      refine lv_iload_n C.1 C.2.1 (dk_at dkX6_dayGoes 2 rfl) rfl (lv_at hl 0 rfl) ?_
      refine lv_bipush (v := 10) C.1 C.2.1 (dk_at dkX6_dayGoes 3 rfl) (by decide) ?_
      refine lv_icmp_ge (tgt := 48) C.1 C.2.1 (dk_at dkX6_dayGoes 4 rfl) (by decide) (fun c7 => ?_) (fun c7 => ?_)
      · have hf := (if_pos c7).symm.trans hf
        exact hKe v1 now_2 landed_3 landedIn_4 stepped_5 _ _ _ w (lv_sub hl [] rfl) hf
      · have hf := (if_neg c7).symm.trans hf
        refine lv_iconst (v := 0) C.1 C.2.1 (dk_at dkX6_dayGoes 5 rfl) (by decide) ?_
        refine lv_istore_n (lv' := [(2, .int 0), (1, .int v1), (0, .ref (a_m 0))]) C.1 C.2.1 (dk_at dkX6_dayGoes 6 rfl) rfl hl (by decide) rfl (fun ls hl => ?_)
        have L13 : ∀ (K : Int32 → AI → AI → AI → AI → Option (AI × AI × AI × AI)), (∀ (v8 : Int32) (now_9 : AI) (landed_10 : AI) (landedIn_11 : AI) (stepped_12 : AI) (H : Heap) (locs : List Loc) (ls : Array Slot), Wd g A Z.heap (wM g a_m st now_9 isKept hearers draft dHearers dWalls toldWinds tape taped pos frm sort value fault wrongAt landed_10 landedIn_11 stepped_12 isThere isAt isNext landSum heardSum allWays ways drawn lanes sizes cells torn before) H locs → lv_has ls 3 [(1, .int v1), (0, .ref (a_m 0))] → K v8 now_9 landed_10 landedIn_11 stepped_12 = some (now_o, landed_o, landedIn_o, stepped_o) → W P l E rmX6_dayGoes Z Mi AR BE ME CO H locs 0 0 Q (F0 Mi 42 ls [])) → ∀ (n : Nat), ∀ (v8 : Int32) (now_9 : AI) (landed_10 : AI) (landedIn_11 : AI) (stepped_12 : AI) (H : Heap) (locs : List Loc) (ls : Array Slot), Wd g A Z.heap (wM g a_m st now_9 isKept hearers draft dHearers dWalls toldWinds tape taped pos frm sort value fault wrongAt landed_10 landedIn_11 stepped_12 isThere isAt isNext landSum heardSum allWays ways drawn lanes sizes cells torn before) H locs → lv_has ls 3 [(2, .int v8), (1, .int v1), (0, .ref (a_m 0))] → fX6_dayGoes_L10 v1 K n v8 now_9 landed_10 landedIn_11 stepped_12 = some (now_o, landed_o, landedIn_o, stepped_o) → W P l E rmX6_dayGoes Z Mi AR BE ME CO H locs 0 0 Q (F0 Mi 10 ls []) := by
          intro K hKe n
          induction n with
          | zero => intro v8 now_9 landed_10 landedIn_11 stepped_12 H locs ls w hl hf; cases hf
          | succ n ih =>
            intro v8 now_9 landed_10 landedIn_11 stepped_12 H locs ls w hl hf
            rw [fX6_dayGoes_L10] at hf
            refine lv_iload_n C.1 C.2.1 (dk_at dkX6_dayGoes 7 rfl) rfl (lv_at hl 0 rfl) ?_
            refine lv_aload_n C.1 C.2.1 (dk_at dkX6_dayGoes 8 rfl) rfl (lv_at hl 2 rfl) ?_
            refine r_get (v := .ref (a_m 2)) C hK w.1 (fun w h => List.mem_cons_of_mem _ (inlX6 w h)) 0 rfl rfl 1 (by decide) (List.mem_cons_of_mem _ (inr4 _ (List.mem_of_getElem? (i := 5) rfl))) rfl (dk_at dkX6_dayGoes 9 rfl) ?_
            refine lv_bipush (v := 43) C.1 C.2.1 (dk_at dkX6_dayGoes 10 rfl) (by decide) ?_
            refine r_iald (k := 43) (f := now_9) C hK w.1 2 rfl (in_c (by decide)) (by decide) (dk_at dkX6_dayGoes 11 rfl) ?_
            refine lv_icmp_ge (tgt := 42) C.1 C.2.1 (dk_at dkX6_dayGoes 12 rfl) (by decide) (fun c14 => ?_) (fun c14 => ?_)
            · have hf := (if_pos c14).symm.trans hf
              exact hKe v8 now_9 landed_10 landedIn_11 stepped_12 _ _ _ w (lv_sub hl [1, 2] rfl) hf
            · have hf := (if_neg c14).symm.trans hf
              refine lv_aload_n C.1 C.2.1 (dk_at dkX6_dayGoes 13 rfl) rfl (lv_at hl 2 rfl) ?_
              refine lv_iload_n C.1 C.2.1 (dk_at dkX6_dayGoes 14 rfl) rfl (lv_at hl 0 rfl) ?_
              refine lv_iconst (v := 4) C.1 C.2.1 (dk_at dkX6_dayGoes 15 rfl) (by decide) ?_
              obtain ⟨r15, hq16, hf⟩ := bd1_at hf
              refine r_roV (As := [.int v8, .int 4]) (rest := []) C (kX6_of l g a_m st now_9 isKept hearers draft dHearers dWalls toldWinds tape taped pos frm sort value fault wrongAt landed_10 landedIn_11 stepped_12 isThere isAt isNext landSum heardSum allWays ways drawn lanes sizes cells torn before v8 4 r15 hq16) (cwV0 C (inr18 _ (List.mem_of_getElem? (i := 14) rfl)) mwX6_of hdX6_of ⟨Nat.le_of_ble_eq_true rfl, Nat.le_of_ble_eq_true rfl⟩) hK w.1 rfl rfl rfl hl.1 rfl (Nat.le_of_ble_eq_true rfl) ⟨Nat.zero_le _, Nat.zero_le _⟩ (dk_at dkX6_dayGoes 16 rfl) ?_
              refine lv_iload_n C.1 C.2.1 (dk_at dkX6_dayGoes 17 rfl) rfl (lv_at hl 1 rfl) ?_
              refine lv_icmp_ne (tgt := 36) C.1 C.2.1 (dk_at dkX6_dayGoes 18 rfl) (by decide) (fun c17 => ?_) (fun c17 => ?_)
              · have hf := (if_neg c17).symm.trans hf
                obtain ⟨x18, ex18⟩ : ∃ z : Int32, z = v8 + 1 := ⟨_, rfl⟩
                have hf := nm_at ex18 hf
                refine lv_iinc (v := x18) (lv' := [(2, .int x18), (1, .int v1), (0, .ref (a_m 0))]) C.1 C.2.1 (dk_at dkX6_dayGoes 22 rfl) hl (k := 0) rfl (by rw [ex18]; rfl) (by decide) rfl (fun ls hl => ?_)
                refine lv_goto (tgt := 10) C.1 C.2.1 (dk_at dkX6_dayGoes 23 rfl) (by decide) ?_
                exact ih x18 now_9 landed_10 landedIn_11 stepped_12 _ _ _ w (lv_sub hl [0, 1, 2] rfl) hf
              · have hf := (if_pos c17).symm.trans hf
                refine lv_aload_n C.1 C.2.1 (dk_at dkX6_dayGoes 19 rfl) rfl (lv_at hl 2 rfl) ?_
                refine lv_iload_n C.1 C.2.1 (dk_at dkX6_dayGoes 20 rfl) rfl (lv_at hl 0 rfl) ?_
                obtain ⟨now_19, landed_20, landedIn_21, stepped_22, hq23, hf⟩ := bd4_at hf
                refine r_rwv (As := [.int v8]) (rest := []) (wr := []) (ws' := wM g a_m st now_19 isKept hearers draft dHearers dWalls toldWinds tape taped pos frm sort value fault wrongAt landed_20 landedIn_21 stepped_22 isThere isAt isNext landSum heardSum allWays ways drawn lanes sizes cells torn before) C (kX6_flies l g _ a_m st now_9 isKept hearers draft dHearers dWalls toldWinds tape taped pos frm sort value fault wrongAt landed_10 landedIn_11 stepped_12 isThere isAt isNext landSum heardSum allWays ways drawn lanes sizes cells torn before v8 now_19 landed_20 landedIn_21 stepped_22 hq23) (cwV0 C (inr25 _ (List.mem_of_getElem? (i := 13) rfl)) mwX6_flies hdX6_flies ⟨Nat.le_of_ble_eq_true rfl, Nat.le_of_ble_eq_true rfl⟩) hK w hA [0, 1, 2, 3, 4, 5, 6, 7, 8, 9, 10, 11, 12, 13, 14, 15, 16, 17] [] [0, 1, 2, 3, 4, 5, 6, 7, 8, 9, 10, 11, 12, 13, 14, 15, 16, 17] (by decide) rfl rfl (by decide) (by decide) rfl (by decide) rfl rfl rfl hl.1 rfl (Nat.le_of_ble_eq_true rfl) ⟨Nat.zero_le _, Nat.zero_le _⟩ (dk_at dkX6_dayGoes 21 rfl) (fun H locs w => ?_)
                obtain ⟨x24, ex24⟩ : ∃ z : Int32, z = v8 + 1 := ⟨_, rfl⟩
                have hf := nm_at ex24 hf
                refine lv_iinc (v := x24) (lv' := [(2, .int x24), (1, .int v1), (0, .ref (a_m 0))]) C.1 C.2.1 (dk_at dkX6_dayGoes 22 rfl) hl (k := 0) rfl (by rw [ex24]; rfl) (by decide) rfl (fun ls hl => ?_)
                refine lv_goto (tgt := 10) C.1 C.2.1 (dk_at dkX6_dayGoes 23 rfl) (by decide) ?_
                exact ih x24 now_19 landed_20 landedIn_21 stepped_22 _ _ _ w (lv_sub hl [0, 1, 2] rfl) hf
        refine L13 _ ?_ 4096 0 now_2 landed_3 landedIn_4 stepped_5 _ _ _ w (lv_sub hl [0, 1, 2] rfl) hf
        clear hf
        intro v8 now_9 landed_10 landedIn_11 stepped_12 H locs ls w hl hf
        obtain ⟨x25, ex25⟩ : ∃ z : Int32, z = v1 + 1 := ⟨_, rfl⟩
        have hf := nm_at ex25 hf
        refine lv_iinc (v := x25) (lv' := [(1, .int x25), (0, .ref (a_m 0))]) C.1 C.2.1 (dk_at dkX6_dayGoes 24 rfl) hl (k := 0) rfl (by rw [ex25]; rfl) (by decide) rfl (fun ls hl => ?_)
        refine lv_goto (tgt := 2) C.1 C.2.1 (dk_at dkX6_dayGoes 25 rfl) (by decide) ?_
        exact ih x25 now_9 landed_10 landedIn_11 stepped_12 _ _ _ w (lv_sub hl [0, 1] rfl) hf
  refine L6 _ ?_ 4096 0 now landed landedIn stepped _ _ _ w (lv_sub hl [0, 1] rfl) hf
  clear hf
  intro v1 now_2 landed_3 landedIn_4 stepped_5 H locs ls w hl hf
  cases hf
  exact fin _ _ _ _ (dk_at dkX6_dayGoes 26 rfl) w
-- X6.goesAsItIs
abbrev tbX6_goesAsItIs : List (Nat × Instr × Nat) := [(0, .aload_n 0, 1), (1, .invokevirtual 201, 3), (4, .aload_n 0, 1), (5, .invokevirtual 204, 3), (8, .return_, 1)]
theorem dkX6_goesAsItIs : dk cX6_goesAsItIs tbX6_goesAsItIs := dk_of (by decide +kernel)
abbrev cdX6_goesAsItIs : Cond := Cond.code yX6_goesAsItIs cX6_goesAsItIs 1 none
abbrev rmX6_goesAsItIs : Room := { frames := 4, cells := 0, slots := 0, locals := 97 }
theorem mwX6_goesAsItIs : Cond.instanceMethod yX6_goesAsItIs ∈ wsL_law ∧ Cond.selects RX6 yX6_goesAsItIs yX6_goesAsItIs ∈ wsL_law ∧ Cond.initialized RX6 ∈ wsL_law ∧ cdX6_goesAsItIs ∈ wsL_law := ⟨inr25 _ (List.mem_of_getElem? (i := 6) rfl), inr25 _ (List.mem_of_getElem? (i := 7) rfl), inr1 _ (List.mem_of_getElem? (i := 5) rfl), inr25 _ (List.mem_of_getElem? (i := 8) rfl)⟩
theorem hdX6_goesAsItIs : yX6_goesAsItIs.cls = RX6 ∧ yX6_goesAsItIs.cls ≠ "java/lang/invoke/MethodHandle" ∧ yX6_goesAsItIs.cls ≠ "java/lang/invoke/VarHandle" ∧ (parseMethodDescriptor yX6_goesAsItIs.desc).map (fun d => d.parameters.length) = some 0 := by decide +kernel
set_option maxHeartbeats 4000000 in
set_option maxRecDepth 100000 in
theorem kX6_goesAsItIs (l : Launch) (g : Gx) (sz : Nat) (a_m : Nat → Nat) (st : AI) (now : AI) (isKept : AI) (hearers : Int32) (draft : AI) (dHearers : Int32) (dWalls : Int32) (toldWinds : Int32) (tape : AI) (taped : Int32) (pos : Int32) (frm : Int32) (sort : Int32) (value : Int32) (fault : Int32) (wrongAt : Int32) (landed : AI) (landedIn : AI) (stepped : AI) (isThere : AI) (isAt : AI) (isNext : AI) (landSum : Int64) (heardSum : Int64) (allWays : Int64) (ways : AI) (drawn : AI) (lanes : AI) (sizes : AI) (cells : AI) (torn : Int32) (before : AI) (now_o : AI) (landed_o : AI) (landedIn_o : AI) (stepped_o : AI) (hf : fX6_goesAsItIs st now landed landedIn stepped = some (now_o, landed_o, landedIn_o, stepped_o)) : Met l yX6_goesAsItIs (cdX6_goesAsItIs :: wsL_law) rmX6_goesAsItIs (va_Pc [.ref (a_m 0)] (RWp g sz (wM g a_m st now isKept hearers draft dHearers dWalls toldWinds tape taped pos frm sort value fault wrongAt landed landedIn stepped isThere isAt isNext landSum heardSum allWays ways drawn lanes sizes cells torn before))) (va_Qv (fun _ : Unit => True) (fun _ => RWq g (va_A (wM g a_m st now isKept hearers draft dHearers dWalls toldWinds tape taped pos frm sort value fault wrongAt landed landedIn stepped isThere isAt isNext landSum heardSum allWays ways drawn lanes sizes cells torn before) sz) (wM g a_m st now_o isKept hearers draft dHearers dWalls toldWinds tape taped pos frm sort value fault wrongAt landed_o landedIn_o stepped_o isThere isAt isNext landSum heardSum allWays ways drawn lanes sizes cells torn before)) (va_A (wM g a_m st now isKept hearers draft dHearers dWalls toldWinds tape taped pos frm sort value fault wrongAt landed landedIn stepped isThere isAt isNext landSum heardSum allWays ways drawn lanes sizes cells torn before) sz)) 0 0 (va_A (wM g a_m st now isKept hearers draft dHearers dWalls toldWinds tape taped pos frm sort value fault wrongAt landed landedIn stepped isThere isAt isNext landSum heardSum allWays ways drawn lanes sizes cells torn before) sz) := by
  refine Met_rwv (cc := cX6_goesAsItIs) (maxL := 1) (by decide) rfl (Nat.le_of_ble_eq_true rfl) ?_
  intro P E Z Mi AR BE ME CO A Q C hK hA fin w ls hl
  have hl : lv_has ls 1 [(0, .ref (a_m 0))] := hl
  unfold fX6_goesAsItIs at hf
  refine lv_aload_n C.1 C.2.1 (dk_at dkX6_goesAsItIs 0 rfl) rfl (lv_at hl 0 rfl) ?_
  obtain ⟨now_1, hq2, hf⟩ := bd1_at hf
  refine r_rwv (As := []) (rest := []) (wr := []) (ws' := wM g a_m st now_1 isKept hearers draft dHearers dWalls toldWinds tape taped pos frm sort value fault wrongAt landed landedIn stepped isThere isAt isNext landSum heardSum allWays ways drawn lanes sizes cells torn before) C (kX6_starts l g _ a_m st now isKept hearers draft dHearers dWalls toldWinds tape taped pos frm sort value fault wrongAt landed landedIn stepped isThere isAt isNext landSum heardSum allWays ways drawn lanes sizes cells torn before now_1 hq2) (cwV0 C (inr17 _ (List.mem_of_getElem? (i := 3) rfl)) mwX6_starts hdX6_starts ⟨Nat.le_of_ble_eq_true rfl, Nat.le_of_ble_eq_true rfl⟩) hK w hA [0, 1, 2, 3, 4, 5, 6, 7, 8, 9, 10, 11, 12, 13, 14, 15, 16, 17] [] [0, 1, 2, 3, 4, 5, 6, 7, 8, 9, 10, 11, 12, 13, 14, 15, 16, 17] (by decide) rfl rfl (by decide) (by decide) rfl (by decide) rfl rfl rfl hl.1 rfl (Nat.le_of_ble_eq_true rfl) ⟨Nat.zero_le _, Nat.zero_le _⟩ (dk_at dkX6_goesAsItIs 1 rfl) (fun H locs w => ?_)
  refine lv_aload_n C.1 C.2.1 (dk_at dkX6_goesAsItIs 2 rfl) rfl (lv_at hl 0 rfl) ?_
  obtain ⟨now_3, landed_4, landedIn_5, stepped_6, hq7, hf⟩ := bd4_at hf
  refine r_rwv (As := []) (rest := []) (wr := []) (ws' := wM g a_m st now_3 isKept hearers draft dHearers dWalls toldWinds tape taped pos frm sort value fault wrongAt landed_4 landedIn_5 stepped_6 isThere isAt isNext landSum heardSum allWays ways drawn lanes sizes cells torn before) C (kX6_dayGoes l g _ a_m st now_1 isKept hearers draft dHearers dWalls toldWinds tape taped pos frm sort value fault wrongAt landed landedIn stepped isThere isAt isNext landSum heardSum allWays ways drawn lanes sizes cells torn before now_3 landed_4 landedIn_5 stepped_6 hq7) (cwV0 C (inr25 _ (List.mem_of_getElem? (i := 9) rfl)) mwX6_dayGoes hdX6_dayGoes ⟨Nat.le_of_ble_eq_true rfl, Nat.le_of_ble_eq_true rfl⟩) hK w hA [0, 1, 2, 3, 4, 5, 6, 7, 8, 9, 10, 11, 12, 13, 14, 15, 16, 17] [] [0, 1, 2, 3, 4, 5, 6, 7, 8, 9, 10, 11, 12, 13, 14, 15, 16, 17] (by decide) rfl rfl (by decide) (by decide) rfl (by decide) rfl rfl rfl hl.1 rfl (Nat.le_of_ble_eq_true rfl) ⟨Nat.zero_le _, Nat.zero_le _⟩ (dk_at dkX6_goesAsItIs 3 rfl) (fun H locs w => ?_)
  cases hf
  exact fin _ _ _ _ (dk_at dkX6_goesAsItIs 4 rfl) w
-- X6.landIn
abbrev tbX6_landIn : List (Nat × Instr × Nat) := [(0, .iconst 0, 1), (1, .istore_n 2, 1), (2, .iconst 0, 1), (3, .istore_n 3, 1), (4, .iload_n 3, 1), (5, .aload_n 0, 1), (6, .getfield 13, 3), (9, .bipush 43, 2), (11, .iaload, 1), (12, .if_icmp .ge 32, 3), (15, .iload_n 2, 1), (16, .aload_n 0, 1), (17, .getfield 26, 3), (20, .iload_n 3, 1), (21, .iaload, 1), (22, .iload_n 1, 1), (23, .if_icmp .ne 7, 3), (26, .iconst 1, 1), (27, .goto 4, 3), (30, .iconst 0, 1), (31, .invokestatic 207, 3), (34, .iload_n 3, 1), (35, .ishl, 1), (36, .ior, 1), (37, .istore_n 2, 1), (38, .iinc 3 1, 3), (41, .goto (-37), 3), (44, .iload_n 2, 1), (45, .ireturn, 1)]
theorem dkX6_landIn : dk cX6_landIn tbX6_landIn := dk_of (by decide +kernel)
abbrev cdX6_landIn : Cond := Cond.code yX6_landIn cX6_landIn 4 (some .int)
abbrev rmX6_landIn : Room := { frames := 1, cells := 0, slots := 0, locals := 20 }
theorem mwX6_landIn : Cond.instanceMethod yX6_landIn ∈ wsL_law ∧ Cond.selects RX6 yX6_landIn yX6_landIn ∈ wsL_law ∧ Cond.initialized RX6 ∈ wsL_law ∧ cdX6_landIn ∈ wsL_law := ⟨inr26 _ (List.mem_of_getElem? (i := 10) rfl), inr26 _ (List.mem_of_getElem? (i := 11) rfl), inr1 _ (List.mem_of_getElem? (i := 5) rfl), inr26 _ (List.mem_of_getElem? (i := 12) rfl)⟩
theorem hdX6_landIn : yX6_landIn.cls = RX6 ∧ yX6_landIn.cls ≠ "java/lang/invoke/MethodHandle" ∧ yX6_landIn.cls ≠ "java/lang/invoke/VarHandle" ∧ (parseMethodDescriptor yX6_landIn.desc).map (fun d => d.parameters.length) = some 1 := by decide +kernel
set_option maxHeartbeats 4000000 in
set_option maxRecDepth 100000 in
theorem kX6_landIn (l : Launch) (g : Gx) (a_m : Nat → Nat) (st : AI) (now : AI) (isKept : AI) (hearers : Int32) (draft : AI) (dHearers : Int32) (dWalls : Int32) (toldWinds : Int32) (tape : AI) (taped : Int32) (pos : Int32) (frm : Int32) (sort : Int32) (value : Int32) (fault : Int32) (wrongAt : Int32) (landed : AI) (landedIn : AI) (stepped : AI) (isThere : AI) (isAt : AI) (isNext : AI) (landSum : Int64) (heardSum : Int64) (allWays : Int64) (ways : AI) (drawn : AI) (lanes : AI) (sizes : AI) (cells : AI) (torn : Int32) (before : AI) (p1 : Int32) (res : Int32) (hf : fX6_landIn p1 now landed = some res) : Met l yX6_landIn (cdX6_landIn :: wsL_law) rmX6_landIn (va_Pc [.ref (a_m 0), .int p1] (RO g (wM g a_m st now isKept hearers draft dHearers dWalls toldWinds tape taped pos frm sort value fault wrongAt landed landedIn stepped isThere isAt isNext landSum heardSum allWays ways drawn lanes sizes cells torn before))) (vp_Si (fun x => x = res)) 0 0 (fun _ => False) := by
  refine Met_roi (cc := cX6_landIn) (maxL := 4) (by decide) rfl (Nat.le_of_ble_eq_true rfl) ?_
  intro P E Z Mi AR BE ME CO Q C fin hK hP ls hl
  have hl : lv_has ls 4 [(0, .ref (a_m 0)), (1, .int p1)] := hl
  unfold fX6_landIn at hf
  refine lv_iconst (v := 0) C.1 C.2.1 (dk_at dkX6_landIn 0 rfl) (by decide) ?_
  refine lv_istore_n (lv' := [(2, .int 0), (0, .ref (a_m 0)), (1, .int p1)]) C.1 C.2.1 (dk_at dkX6_landIn 1 rfl) rfl hl (by decide) rfl (fun ls hl => ?_)
  refine lv_iconst (v := 0) C.1 C.2.1 (dk_at dkX6_landIn 2 rfl) (by decide) ?_
  refine lv_istore_n (lv' := [(3, .int 0), (2, .int 0), (0, .ref (a_m 0)), (1, .int p1)]) C.1 C.2.1 (dk_at dkX6_landIn 3 rfl) rfl hl (by decide) rfl (fun ls hl => ?_)
  have L3 : ∀ (K : Int32 → Int32 → Option (Int32)), (∀ (v1 : Int32) (v2 : Int32) (ls : Array Slot), lv_has ls 4 [(2, .int v2)] → K v1 v2 = some res → W P l E rmX6_landIn Z Mi AR BE ME CO Z.heap [] 0 0 Q (F0 Mi 44 ls [])) → ∀ (n : Nat), ∀ (v1 : Int32) (v2 : Int32) (ls : Array Slot), lv_has ls 4 [(3, .int v1), (2, .int v2), (0, .ref (a_m 0)), (1, .int p1)] → fX6_landIn_L4 now landed p1 K n v1 v2 = some res → W P l E rmX6_landIn Z Mi AR BE ME CO Z.heap [] 0 0 Q (F0 Mi 4 ls []) := by
    intro K hKe n
    induction n with
    | zero => intro v1 v2 ls hl hf; cases hf
    | succ n ih =>
      intro v1 v2 ls hl hf
      rw [fX6_landIn_L4] at hf
      refine lv_iload_n C.1 C.2.1 (dk_at dkX6_landIn 4 rfl) rfl (lv_at hl 0 rfl) ?_
      refine lv_aload_n C.1 C.2.1 (dk_at dkX6_landIn 5 rfl) rfl (lv_at hl 2 rfl) ?_
      refine r_get (v := .ref (a_m 2)) C hK hP (fun w h => List.mem_cons_of_mem _ (inlX6 w h)) 0 rfl rfl 1 (by decide) (List.mem_cons_of_mem _ (inr4 _ (List.mem_of_getElem? (i := 5) rfl))) rfl (dk_at dkX6_landIn 6 rfl) ?_
      refine lv_bipush (v := 43) C.1 C.2.1 (dk_at dkX6_landIn 7 rfl) (by decide) ?_
      refine r_iald (k := 43) (f := now) C hK hP 2 rfl (in_c (by decide)) (by decide) (dk_at dkX6_landIn 8 rfl) ?_
      refine lv_icmp_ge (tgt := 44) C.1 C.2.1 (dk_at dkX6_landIn 9 rfl) (by decide) (fun c4 => ?_) (fun c4 => ?_)
      · have hf := (if_pos c4).symm.trans hf
        exact hKe v1 v2 _ (lv_sub hl [1] rfl) hf
      · have hf := (if_neg c4).symm.trans hf
        refine lv_iload_n C.1 C.2.1 (dk_at dkX6_landIn 10 rfl) rfl (lv_at hl 1 rfl) ?_
        refine lv_aload_n C.1 C.2.1 (dk_at dkX6_landIn 11 rfl) rfl (lv_at hl 2 rfl) ?_
        refine r_get (v := .ref (a_m 6)) C hK hP (fun w h => List.mem_cons_of_mem _ (inlX6 w h)) 0 rfl rfl 16 (by decide) (List.mem_cons_of_mem _ (inr4 _ (List.mem_of_getElem? (i := 9) rfl))) rfl (dk_at dkX6_landIn 12 rfl) ?_
        refine lv_iload_n C.1 C.2.1 (dk_at dkX6_landIn 13 rfl) rfl (lv_at hl 0 rfl) ?_
        obtain ⟨h5, hf⟩ := gd_at hf
        refine r_iald (k := v1.toNatClampNeg) (f := landed) C hK hP 6 rfl h5 rfl (dk_at dkX6_landIn 14 rfl) ?_
        refine lv_topi (fun x6 ex6 => ?_)
        have hf := nm_at ex6 hf
        refine lv_iload_n C.1 C.2.1 (dk_at dkX6_landIn 15 rfl) rfl (lv_at hl 3 rfl) ?_
        obtain ⟨y7, hq8, hf⟩ := bd1_at hf
        have J9 : ∀ (ls : Array Slot), lv_has ls 4 [(3, .int v1), (0, .ref (a_m 0)), (1, .int p1)] → W P l E rmX6_landIn Z Mi AR BE ME CO Z.heap [] 0 0 Q (F0 Mi 31 ls [.int y7, .int v2]) := by
          intro ls hl
          obtain ⟨r10, hq11, hf⟩ := bd1_at hf
          refine r_st (As := [.int y7]) (rest := [.int v2]) C (kX6_flag l y7 r10 hq11) (cwS0 C (inr17 _ (List.mem_of_getElem? (i := 7) rfl)) mwX6_flag hdX6_flag ⟨Nat.le_of_ble_eq_true rfl, Nat.le_of_ble_eq_true rfl⟩) rfl hl.1 rfl (Nat.le_of_ble_eq_true rfl) ⟨Nat.zero_le _, Nat.zero_le _⟩ (dk_at dkX6_landIn 20 rfl) ?_
          refine lv_iload_n C.1 C.2.1 (dk_at dkX6_landIn 21 rfl) rfl (lv_at hl 0 rfl) ?_
          refine lv_ishl C.1 C.2.1 (dk_at dkX6_landIn 22 rfl) ?_
          refine lv_ior C.1 C.2.1 (dk_at dkX6_landIn 23 rfl) ?_
          refine lv_topi (fun x12 ex12 => ?_)
          have hf := nm_at ex12 hf
          refine lv_istore_n (lv' := [(2, .int x12), (3, .int v1), (0, .ref (a_m 0)), (1, .int p1)]) C.1 C.2.1 (dk_at dkX6_landIn 24 rfl) rfl hl (by decide) rfl (fun ls hl => ?_)
          obtain ⟨x13, ex13⟩ : ∃ z : Int32, z = v1 + 1 := ⟨_, rfl⟩
          have hf := nm_at ex13 hf
          refine lv_iinc (v := x13) (lv' := [(3, .int x13), (2, .int x12), (0, .ref (a_m 0)), (1, .int p1)]) C.1 C.2.1 (dk_at dkX6_landIn 25 rfl) hl (k := 1) rfl (by rw [ex13]; rfl) (by decide) rfl (fun ls hl => ?_)
          refine lv_goto (tgt := 4) C.1 C.2.1 (dk_at dkX6_landIn 26 rfl) (by decide) ?_
          exact ih x13 x12 _ (lv_sub hl [0, 1, 2, 3] rfl) hf
        clear hf
        have hf := hq8
        refine lv_icmp_ne (tgt := 30) C.1 C.2.1 (dk_at dkX6_landIn 16 rfl) (by decide) (fun c14 => ?_) (fun c14 => ?_)
        · have hf := (if_neg c14).symm.trans hf
          refine lv_iconst (v := 0) C.1 C.2.1 (dk_at dkX6_landIn 19 rfl) (by decide) ?_
          cases hf
          exact J9 _ (lv_sub hl [0, 2, 3] rfl)
        · have hf := (if_pos c14).symm.trans hf
          refine lv_iconst (v := 1) C.1 C.2.1 (dk_at dkX6_landIn 17 rfl) (by decide) ?_
          refine lv_goto (tgt := 31) C.1 C.2.1 (dk_at dkX6_landIn 18 rfl) (by decide) ?_
          cases hf
          exact J9 _ (lv_sub hl [0, 2, 3] rfl)
  refine L3 _ ?_ 4096 0 0 _ (lv_sub hl [0, 1, 2, 3] rfl) hf
  clear hf
  intro v1 v2 ls hl hf
  refine lv_iload_n C.1 C.2.1 (dk_at dkX6_landIn 27 rfl) rfl (lv_at hl 0 rfl) ?_
  cases hf
  exact fin _ _ _ (dk_at dkX6_landIn 28 rfl) rfl
-- X6.hearersOf
abbrev tbX6_hearersOf : List (Nat × Instr × Nat) := [(0, .iconst 0, 1), (1, .istore_n 2, 1), (2, .iconst 0, 1), (3, .istore_n 3, 1), (4, .iload_n 3, 1), (5, .aload_n 0, 1), (6, .getfield 78, 3), (9, .if_icmp .ge 38, 3), (12, .iload_n 2, 1), (13, .aload_n 0, 1), (14, .getfield 13, 3), (17, .bipush 44, 2), (19, .iload_n 3, 1), (20, .iadd, 1), (21, .iaload, 1), (22, .aload_n 0, 1), (23, .getfield 26, 3), (26, .iload_n 1, 1), (27, .iaload, 1), (28, .if_icmp .ne 7, 3), (31, .iconst 1, 1), (32, .goto 4, 3), (35, .iconst 0, 1), (36, .invokestatic 207, 3), (39, .iadd, 1), (40, .istore_n 2, 1), (41, .iinc 3 1, 3), (44, .goto (-40), 3), (47, .iload_n 2, 1), (48, .ireturn, 1)]
theorem dkX6_hearersOf : dk cX6_hearersOf tbX6_hearersOf := dk_of (by decide +kernel)
abbrev cdX6_hearersOf : Cond := Cond.code yX6_hearersOf cX6_hearersOf 4 (some .int)
abbrev rmX6_hearersOf : Room := { frames := 1, cells := 0, slots := 0, locals := 20 }
theorem mwX6_hearersOf : Cond.instanceMethod yX6_hearersOf ∈ wsL_law ∧ Cond.selects RX6 yX6_hearersOf yX6_hearersOf ∈ wsL_law ∧ Cond.initialized RX6 ∈ wsL_law ∧ cdX6_hearersOf ∈ wsL_law := ⟨inr28 _ (List.mem_of_getElem? (i := 7) rfl), inr28 _ (List.mem_of_getElem? (i := 8) rfl), inr1 _ (List.mem_of_getElem? (i := 5) rfl), inr28 _ (List.mem_of_getElem? (i := 9) rfl)⟩
theorem hdX6_hearersOf : yX6_hearersOf.cls = RX6 ∧ yX6_hearersOf.cls ≠ "java/lang/invoke/MethodHandle" ∧ yX6_hearersOf.cls ≠ "java/lang/invoke/VarHandle" ∧ (parseMethodDescriptor yX6_hearersOf.desc).map (fun d => d.parameters.length) = some 1 := by decide +kernel
set_option maxHeartbeats 4000000 in
set_option maxRecDepth 100000 in
theorem kX6_hearersOf (l : Launch) (g : Gx) (a_m : Nat → Nat) (st : AI) (now : AI) (isKept : AI) (hearers : Int32) (draft : AI) (dHearers : Int32) (dWalls : Int32) (toldWinds : Int32) (tape : AI) (taped : Int32) (pos : Int32) (frm : Int32) (sort : Int32) (value : Int32) (fault : Int32) (wrongAt : Int32) (landed : AI) (landedIn : AI) (stepped : AI) (isThere : AI) (isAt : AI) (isNext : AI) (landSum : Int64) (heardSum : Int64) (allWays : Int64) (ways : AI) (drawn : AI) (lanes : AI) (sizes : AI) (cells : AI) (torn : Int32) (before : AI) (p1 : Int32) (res : Int32) (hf : fX6_hearersOf p1 now hearers landed = some res) : Met l yX6_hearersOf (cdX6_hearersOf :: wsL_law) rmX6_hearersOf (va_Pc [.ref (a_m 0), .int p1] (RO g (wM g a_m st now isKept hearers draft dHearers dWalls toldWinds tape taped pos frm sort value fault wrongAt landed landedIn stepped isThere isAt isNext landSum heardSum allWays ways drawn lanes sizes cells torn before))) (vp_Si (fun x => x = res)) 0 0 (fun _ => False) := by
  refine Met_roi (cc := cX6_hearersOf) (maxL := 4) (by decide) rfl (Nat.le_of_ble_eq_true rfl) ?_
  intro P E Z Mi AR BE ME CO Q C fin hK hP ls hl
  have hl : lv_has ls 4 [(0, .ref (a_m 0)), (1, .int p1)] := hl
  unfold fX6_hearersOf at hf
  refine lv_iconst (v := 0) C.1 C.2.1 (dk_at dkX6_hearersOf 0 rfl) (by decide) ?_
  refine lv_istore_n (lv' := [(2, .int 0), (0, .ref (a_m 0)), (1, .int p1)]) C.1 C.2.1 (dk_at dkX6_hearersOf 1 rfl) rfl hl (by decide) rfl (fun ls hl => ?_)
  refine lv_iconst (v := 0) C.1 C.2.1 (dk_at dkX6_hearersOf 2 rfl) (by decide) ?_
  refine lv_istore_n (lv' := [(3, .int 0), (2, .int 0), (0, .ref (a_m 0)), (1, .int p1)]) C.1 C.2.1 (dk_at dkX6_hearersOf 3 rfl) rfl hl (by decide) rfl (fun ls hl => ?_)
  have L3 : ∀ (K : Int32 → Int32 → Option (Int32)), (∀ (v1 : Int32) (v2 : Int32) (ls : Array Slot), lv_has ls 4 [(2, .int v2)] → K v1 v2 = some res → W P l E rmX6_hearersOf Z Mi AR BE ME CO Z.heap [] 0 0 Q (F0 Mi 47 ls [])) → ∀ (n : Nat), ∀ (v1 : Int32) (v2 : Int32) (ls : Array Slot), lv_has ls 4 [(3, .int v1), (2, .int v2), (0, .ref (a_m 0)), (1, .int p1)] → fX6_hearersOf_L4 now hearers landed p1 K n v1 v2 = some res → W P l E rmX6_hearersOf Z Mi AR BE ME CO Z.heap [] 0 0 Q (F0 Mi 4 ls []) := by
    intro K hKe n
    induction n with
    | zero => intro v1 v2 ls hl hf; cases hf
    | succ n ih =>
      intro v1 v2 ls hl hf
      rw [fX6_hearersOf_L4] at hf
      refine lv_iload_n C.1 C.2.1 (dk_at dkX6_hearersOf 4 rfl) rfl (lv_at hl 0 rfl) ?_
      refine lv_aload_n C.1 C.2.1 (dk_at dkX6_hearersOf 5 rfl) rfl (lv_at hl 2 rfl) ?_
      refine r_get (v := .int hearers) C hK hP (fun w h => List.mem_cons_of_mem _ (inlX6 w h)) 0 rfl rfl 3 (by decide) (List.mem_cons_of_mem _ (inr5 _ (List.mem_of_getElem? (i := 8) rfl))) rfl (dk_at dkX6_hearersOf 6 rfl) ?_
      refine lv_icmp_ge (tgt := 47) C.1 C.2.1 (dk_at dkX6_hearersOf 7 rfl) (by decide) (fun c4 => ?_) (fun c4 => ?_)
      · have hf := (if_pos c4).symm.trans hf
        exact hKe v1 v2 _ (lv_sub hl [1] rfl) hf
      · have hf := (if_neg c4).symm.trans hf
        refine lv_iload_n C.1 C.2.1 (dk_at dkX6_hearersOf 8 rfl) rfl (lv_at hl 1 rfl) ?_
        refine lv_aload_n C.1 C.2.1 (dk_at dkX6_hearersOf 9 rfl) rfl (lv_at hl 2 rfl) ?_
        refine r_get (v := .ref (a_m 2)) C hK hP (fun w h => List.mem_cons_of_mem _ (inlX6 w h)) 0 rfl rfl 1 (by decide) (List.mem_cons_of_mem _ (inr4 _ (List.mem_of_getElem? (i := 5) rfl))) rfl (dk_at dkX6_hearersOf 10 rfl) ?_
        refine lv_bipush (v := 44) C.1 C.2.1 (dk_at dkX6_hearersOf 11 rfl) (by decide) ?_
        refine lv_iload_n C.1 C.2.1 (dk_at dkX6_hearersOf 12 rfl) rfl (lv_at hl 0 rfl) ?_
        refine lv_iadd C.1 C.2.1 (dk_at dkX6_hearersOf 13 rfl) ?_
        refine lv_topi (fun x5 ex5 => ?_)
        have hf := nm_at ex5 hf
        obtain ⟨h6, hf⟩ := gd_at hf
        refine r_iald (k := x5.toNatClampNeg) (f := now) C hK hP 2 rfl h6 rfl (dk_at dkX6_hearersOf 14 rfl) ?_
        refine lv_topi (fun x7 ex7 => ?_)
        have hf := nm_at ex7 hf
        refine lv_aload_n C.1 C.2.1 (dk_at dkX6_hearersOf 15 rfl) rfl (lv_at hl 2 rfl) ?_
        refine r_get (v := .ref (a_m 6)) C hK hP (fun w h => List.mem_cons_of_mem _ (inlX6 w h)) 0 rfl rfl 16 (by decide) (List.mem_cons_of_mem _ (inr4 _ (List.mem_of_getElem? (i := 9) rfl))) rfl (dk_at dkX6_hearersOf 16 rfl) ?_
        refine lv_iload_n C.1 C.2.1 (dk_at dkX6_hearersOf 17 rfl) rfl (lv_at hl 3 rfl) ?_
        obtain ⟨h8, hf⟩ := gd_at hf
        refine r_iald (k := p1.toNatClampNeg) (f := landed) C hK hP 6 rfl h8 rfl (dk_at dkX6_hearersOf 18 rfl) ?_
        obtain ⟨y9, hq10, hf⟩ := bd1_at hf
        have J11 : ∀ (ls : Array Slot), lv_has ls 4 [(3, .int v1), (0, .ref (a_m 0)), (1, .int p1)] → W P l E rmX6_hearersOf Z Mi AR BE ME CO Z.heap [] 0 0 Q (F0 Mi 36 ls [.int y9, .int v2]) := by
          intro ls hl
          obtain ⟨r12, hq13, hf⟩ := bd1_at hf
          refine r_st (As := [.int y9]) (rest := [.int v2]) C (kX6_flag l y9 r12 hq13) (cwS0 C (inr17 _ (List.mem_of_getElem? (i := 7) rfl)) mwX6_flag hdX6_flag ⟨Nat.le_of_ble_eq_true rfl, Nat.le_of_ble_eq_true rfl⟩) rfl hl.1 rfl (Nat.le_of_ble_eq_true rfl) ⟨Nat.zero_le _, Nat.zero_le _⟩ (dk_at dkX6_hearersOf 23 rfl) ?_
          refine lv_iadd C.1 C.2.1 (dk_at dkX6_hearersOf 24 rfl) ?_
          refine lv_topi (fun x14 ex14 => ?_)
          have hf := nm_at ex14 hf
          refine lv_istore_n (lv' := [(2, .int x14), (3, .int v1), (0, .ref (a_m 0)), (1, .int p1)]) C.1 C.2.1 (dk_at dkX6_hearersOf 25 rfl) rfl hl (by decide) rfl (fun ls hl => ?_)
          obtain ⟨x15, ex15⟩ : ∃ z : Int32, z = v1 + 1 := ⟨_, rfl⟩
          have hf := nm_at ex15 hf
          refine lv_iinc (v := x15) (lv' := [(3, .int x15), (2, .int x14), (0, .ref (a_m 0)), (1, .int p1)]) C.1 C.2.1 (dk_at dkX6_hearersOf 26 rfl) hl (k := 1) rfl (by rw [ex15]; rfl) (by decide) rfl (fun ls hl => ?_)
          refine lv_goto (tgt := 4) C.1 C.2.1 (dk_at dkX6_hearersOf 27 rfl) (by decide) ?_
          exact ih x15 x14 _ (lv_sub hl [0, 1, 2, 3] rfl) hf
        clear hf
        have hf := hq10
        refine lv_icmp_ne (tgt := 35) C.1 C.2.1 (dk_at dkX6_hearersOf 19 rfl) (by decide) (fun c16 => ?_) (fun c16 => ?_)
        · have hf := (if_neg c16).symm.trans hf
          refine lv_iconst (v := 0) C.1 C.2.1 (dk_at dkX6_hearersOf 22 rfl) (by decide) ?_
          cases hf
          exact J11 _ (lv_sub hl [0, 2, 3] rfl)
        · have hf := (if_pos c16).symm.trans hf
          refine lv_iconst (v := 1) C.1 C.2.1 (dk_at dkX6_hearersOf 20 rfl) (by decide) ?_
          refine lv_goto (tgt := 36) C.1 C.2.1 (dk_at dkX6_hearersOf 21 rfl) (by decide) ?_
          cases hf
          exact J11 _ (lv_sub hl [0, 2, 3] rfl)
  refine L3 _ ?_ 4096 0 0 _ (lv_sub hl [0, 1, 2, 3] rfl) hf
  clear hf
  intro v1 v2 ls hl hf
  refine lv_iload_n C.1 C.2.1 (dk_at dkX6_hearersOf 28 rfl) rfl (lv_at hl 0 rfl) ?_
  cases hf
  exact fin _ _ _ (dk_at dkX6_hearersOf 29 rfl) rfl
-- X6.heard
abbrev tbX6_heard : List (Nat × Instr × Nat) := [(0, .iconst 0, 1), (1, .istore_n 1, 1), (2, .iconst 0, 1), (3, .istore_n 2, 1), (4, .iload_n 2, 1), (5, .aload_n 0, 1), (6, .getfield 13, 3), (9, .bipush 43, 2), (11, .iaload, 1), (12, .if_icmp .ge 28, 3), (15, .iload_n 1, 1), (16, .aload_n 0, 1), (17, .iload_n 2, 1), (18, .invokevirtual 211, 3), (21, .ifCond .le 7, 3), (24, .iconst 1, 1), (25, .goto 4, 3), (28, .iconst 0, 1), (29, .invokestatic 207, 3), (32, .iadd, 1), (33, .istore_n 1, 1), (34, .iinc 2 1, 3), (37, .goto (-33), 3), (40, .iload_n 1, 1), (41, .ireturn, 1)]
theorem dkX6_heard : dk cX6_heard tbX6_heard := dk_of (by decide +kernel)
abbrev cdX6_heard : Cond := Cond.code yX6_heard cX6_heard 3 (some .int)
abbrev rmX6_heard : Room := { frames := 2, cells := 0, slots := 0, locals := 43 }
theorem mwX6_heard : Cond.instanceMethod yX6_heard ∈ wsL_law ∧ Cond.selects RX6 yX6_heard yX6_heard ∈ wsL_law ∧ Cond.initialized RX6 ∈ wsL_law ∧ cdX6_heard ∈ wsL_law := ⟨inr28 _ (List.mem_of_getElem? (i := 3) rfl), inr28 _ (List.mem_of_getElem? (i := 4) rfl), inr1 _ (List.mem_of_getElem? (i := 5) rfl), inr28 _ (List.mem_of_getElem? (i := 5) rfl)⟩
theorem hdX6_heard : yX6_heard.cls = RX6 ∧ yX6_heard.cls ≠ "java/lang/invoke/MethodHandle" ∧ yX6_heard.cls ≠ "java/lang/invoke/VarHandle" ∧ (parseMethodDescriptor yX6_heard.desc).map (fun d => d.parameters.length) = some 0 := by decide +kernel
set_option maxHeartbeats 4000000 in
set_option maxRecDepth 100000 in
theorem kX6_heard (l : Launch) (g : Gx) (a_m : Nat → Nat) (st : AI) (now : AI) (isKept : AI) (hearers : Int32) (draft : AI) (dHearers : Int32) (dWalls : Int32) (toldWinds : Int32) (tape : AI) (taped : Int32) (pos : Int32) (frm : Int32) (sort : Int32) (value : Int32) (fault : Int32) (wrongAt : Int32) (landed : AI) (landedIn : AI) (stepped : AI) (isThere : AI) (isAt : AI) (isNext : AI) (landSum : Int64) (heardSum : Int64) (allWays : Int64) (ways : AI) (drawn : AI) (lanes : AI) (sizes : AI) (cells : AI) (torn : Int32) (before : AI) (res : Int32) (hf : fX6_heard now hearers landed = some res) : Met l yX6_heard (cdX6_heard :: wsL_law) rmX6_heard (va_Pc [.ref (a_m 0)] (RO g (wM g a_m st now isKept hearers draft dHearers dWalls toldWinds tape taped pos frm sort value fault wrongAt landed landedIn stepped isThere isAt isNext landSum heardSum allWays ways drawn lanes sizes cells torn before))) (vp_Si (fun x => x = res)) 0 0 (fun _ => False) := by
  refine Met_roi (cc := cX6_heard) (maxL := 3) (by decide) rfl (Nat.le_of_ble_eq_true rfl) ?_
  intro P E Z Mi AR BE ME CO Q C fin hK hP ls hl
  have hl : lv_has ls 3 [(0, .ref (a_m 0))] := hl
  unfold fX6_heard at hf
  refine lv_iconst (v := 0) C.1 C.2.1 (dk_at dkX6_heard 0 rfl) (by decide) ?_
  refine lv_istore_n (lv' := [(1, .int 0), (0, .ref (a_m 0))]) C.1 C.2.1 (dk_at dkX6_heard 1 rfl) rfl hl (by decide) rfl (fun ls hl => ?_)
  refine lv_iconst (v := 0) C.1 C.2.1 (dk_at dkX6_heard 2 rfl) (by decide) ?_
  refine lv_istore_n (lv' := [(2, .int 0), (1, .int 0), (0, .ref (a_m 0))]) C.1 C.2.1 (dk_at dkX6_heard 3 rfl) rfl hl (by decide) rfl (fun ls hl => ?_)
  have L3 : ∀ (K : Int32 → Int32 → Option (Int32)), (∀ (v1 : Int32) (v2 : Int32) (ls : Array Slot), lv_has ls 3 [(1, .int v2)] → K v1 v2 = some res → W P l E rmX6_heard Z Mi AR BE ME CO Z.heap [] 0 0 Q (F0 Mi 40 ls [])) → ∀ (n : Nat), ∀ (v1 : Int32) (v2 : Int32) (ls : Array Slot), lv_has ls 3 [(2, .int v1), (1, .int v2), (0, .ref (a_m 0))] → fX6_heard_L4 now hearers landed K n v1 v2 = some res → W P l E rmX6_heard Z Mi AR BE ME CO Z.heap [] 0 0 Q (F0 Mi 4 ls []) := by
    intro K hKe n
    induction n with
    | zero => intro v1 v2 ls hl hf; cases hf
    | succ n ih =>
      intro v1 v2 ls hl hf
      rw [fX6_heard_L4] at hf
      refine lv_iload_n C.1 C.2.1 (dk_at dkX6_heard 4 rfl) rfl (lv_at hl 0 rfl) ?_
      refine lv_aload_n C.1 C.2.1 (dk_at dkX6_heard 5 rfl) rfl (lv_at hl 2 rfl) ?_
      refine r_get (v := .ref (a_m 2)) C hK hP (fun w h => List.mem_cons_of_mem _ (inlX6 w h)) 0 rfl rfl 1 (by decide) (List.mem_cons_of_mem _ (inr4 _ (List.mem_of_getElem? (i := 5) rfl))) rfl (dk_at dkX6_heard 6 rfl) ?_
      refine lv_bipush (v := 43) C.1 C.2.1 (dk_at dkX6_heard 7 rfl) (by decide) ?_
      refine r_iald (k := 43) (f := now) C hK hP 2 rfl (in_c (by decide)) (by decide) (dk_at dkX6_heard 8 rfl) ?_
      refine lv_icmp_ge (tgt := 40) C.1 C.2.1 (dk_at dkX6_heard 9 rfl) (by decide) (fun c4 => ?_) (fun c4 => ?_)
      · have hf := (if_pos c4).symm.trans hf
        exact hKe v1 v2 _ (lv_sub hl [1] rfl) hf
      · have hf := (if_neg c4).symm.trans hf
        refine lv_iload_n C.1 C.2.1 (dk_at dkX6_heard 10 rfl) rfl (lv_at hl 1 rfl) ?_
        refine lv_aload_n C.1 C.2.1 (dk_at dkX6_heard 11 rfl) rfl (lv_at hl 2 rfl) ?_
        refine lv_iload_n C.1 C.2.1 (dk_at dkX6_heard 12 rfl) rfl (lv_at hl 0 rfl) ?_
        obtain ⟨r5, hq6, hf⟩ := bd1_at hf
        refine r_roV (As := [.int v1]) (rest := [.int v2]) C (kX6_hearersOf l g a_m st now isKept hearers draft dHearers dWalls toldWinds tape taped pos frm sort value fault wrongAt landed landedIn stepped isThere isAt isNext landSum heardSum allWays ways drawn lanes sizes cells torn before v1 r5 hq6) (cwV0 C (inr28 _ (List.mem_of_getElem? (i := 6) rfl)) mwX6_hearersOf hdX6_hearersOf ⟨Nat.le_of_ble_eq_true rfl, Nat.le_of_ble_eq_true rfl⟩) hK hP rfl rfl rfl hl.1 rfl (Nat.le_of_ble_eq_true rfl) ⟨Nat.zero_le _, Nat.zero_le _⟩ (dk_at dkX6_heard 13 rfl) ?_
        obtain ⟨y7, hq8, hf⟩ := bd1_at hf
        have J9 : ∀ (ls : Array Slot), lv_has ls 3 [(2, .int v1), (0, .ref (a_m 0))] → W P l E rmX6_heard Z Mi AR BE ME CO Z.heap [] 0 0 Q (F0 Mi 29 ls [.int y7, .int v2]) := by
          intro ls hl
          obtain ⟨r10, hq11, hf⟩ := bd1_at hf
          refine r_st (As := [.int y7]) (rest := [.int v2]) C (kX6_flag l y7 r10 hq11) (cwS0 C (inr17 _ (List.mem_of_getElem? (i := 7) rfl)) mwX6_flag hdX6_flag ⟨Nat.le_of_ble_eq_true rfl, Nat.le_of_ble_eq_true rfl⟩) rfl hl.1 rfl (Nat.le_of_ble_eq_true rfl) ⟨Nat.zero_le _, Nat.zero_le _⟩ (dk_at dkX6_heard 18 rfl) ?_
          refine lv_iadd C.1 C.2.1 (dk_at dkX6_heard 19 rfl) ?_
          refine lv_topi (fun x12 ex12 => ?_)
          have hf := nm_at ex12 hf
          refine lv_istore_n (lv' := [(1, .int x12), (2, .int v1), (0, .ref (a_m 0))]) C.1 C.2.1 (dk_at dkX6_heard 20 rfl) rfl hl (by decide) rfl (fun ls hl => ?_)
          obtain ⟨x13, ex13⟩ : ∃ z : Int32, z = v1 + 1 := ⟨_, rfl⟩
          have hf := nm_at ex13 hf
          refine lv_iinc (v := x13) (lv' := [(2, .int x13), (1, .int x12), (0, .ref (a_m 0))]) C.1 C.2.1 (dk_at dkX6_heard 21 rfl) hl (k := 1) rfl (by rw [ex13]; rfl) (by decide) rfl (fun ls hl => ?_)
          refine lv_goto (tgt := 4) C.1 C.2.1 (dk_at dkX6_heard 22 rfl) (by decide) ?_
          exact ih x13 x12 _ (lv_sub hl [0, 1, 2] rfl) hf
        clear hf
        have hf := hq8
        refine lv_if_le (tgt := 28) C.1 C.2.1 (dk_at dkX6_heard 14 rfl) (by decide) (fun c14 => ?_) (fun c14 => ?_)
        · have hf := (if_pos c14).symm.trans hf
          refine lv_iconst (v := 0) C.1 C.2.1 (dk_at dkX6_heard 17 rfl) (by decide) ?_
          cases hf
          exact J9 _ (lv_sub hl [0, 2] rfl)
        · have hf := (if_neg c14).symm.trans hf
          refine lv_iconst (v := 1) C.1 C.2.1 (dk_at dkX6_heard 15 rfl) (by decide) ?_
          refine lv_goto (tgt := 29) C.1 C.2.1 (dk_at dkX6_heard 16 rfl) (by decide) ?_
          cases hf
          exact J9 _ (lv_sub hl [0, 2] rfl)
  refine L3 _ ?_ 4096 0 0 _ (lv_sub hl [0, 1, 2] rfl) hf
  clear hf
  intro v1 v2 ls hl hf
  refine lv_iload_n C.1 C.2.1 (dk_at dkX6_heard 23 rfl) rfl (lv_at hl 0 rfl) ?_
  cases hf
  exact fin _ _ _ (dk_at dkX6_heard 24 rfl) rfl
