/-! THE CLAIM OUT OF ONE WALK OF THE LAW'S BODY. Your part is whole_start (and what it stands on); all else here is the same for every law, but numbers. -/
def R_law : String := "VoiceFallLaw"
def lw_P (b : Addr) (xs : List Int32) (args : Array Value) (s : State) : Prop := args = #[.ref b] ∧ s.IntsAt b xs ∧ xs.length ≤ 2560 ∧ (Jvm.Cond.and given_1 narrow_1).before args s = true
def lw_Q (_ : Array Value) (s : State) (o : Outcome) (t : State) : Prop := o = .returned (some (.int 1)) ∧ Framed s o t [] 600000 7302250
def lw_Z (below : List Frame) (a : Array Value) (s : State) : State → Prop := fun t => ∃ o, t.status = .running ∧ Ended t below o ∧ lw_Q a s o t
/-- the law's own end, with 1 on the stack, nothing written that was there before, its room as the claim has it -/
theorem lw_ret {p : Program} {l : Launch} {e : Env} {s : State} {m : MethodId} {below : List Frame} {meth : Method} {c : Code} {b : Nat} (hx : p.tables.exec = Jvm.exec) (hb : c.code = code) (hr : meth.sig.returnType = ret) (hlocks : meth.locks = false) {pc : Nat} {H : Heap} {ls : Array Slot} (hdg : decode code pc = .ok (.ireturn, 1)) : W p l e room_1 s m #[Value.ref b] below meth c H [] 600000 7302250 (lw_Z below #[Value.ref b] s) (F0 m pc ls [.int 1]) := by
  intro T hT X
  obtain ⟨fs, hret, hrun, hended, hW, hframe⟩ := X.leave (v := some (.int 1)) (hlocks := hlocks) (fun h => by rw [hr] at h; cases h)
  have hmeth' : T.vm.method? m = some meth := X.method'
  refine ⟨T.setFrames fs, ?_, .returned (some (.int 1)), hrun, hended, rfl, ⟨_, rfl⟩, hW, hframe⟩
  jvm_step X.here [X.here.top, hx, hb, hdg, hmeth', hr, ret, narrow_b1]
  (try refine ⟨rfl, ?_⟩); (try refine ⟨rfl, ?_⟩)
  first | (intro acts; rw [hret _ acts rfl rfl rfl]) | rw [hret _ _ rfl rfl rfl]
  exact Steps.refl _
/-- what holds at the law's entry: the machine, the code, the tables' words (any of lw_tbl by 'hts w (by decide +kernel)'), the script of L ints xs at the cell b, what the Statement gives of the start (any of its parts by flat_of_before) -/
def lw_At (p : Program) (s : State) (m : MethodId) (meth : Method) (c : Code) (b L : Nat) (xs : Nat → Int32) : Prop :=
  p.tables.exec = Jvm.exec ∧ c.code = code ∧ meth.sig.returnType = ret ∧ c.maxLocals = 4 ∧ s.vm.findClass R_law = some m.cls ∧ (∀ w ∈ lw_tbl, w.before #[Value.ref b] s = true) ∧ va_X b L xs s s.heap ∧ b < s.heap.size ∧ meth.locks = false ∧ (Jvm.Cond.and given_1 narrow_1).before #[Value.ref b] s = true
theorem law_lt {L i : Nat} {x3 : Int32} (hL : L ≤ 2560) (hi : i ≤ L + 5) (ex3 : x3 = nI i) (h : ¬ nI L - 5 < x3) : i + 5 ≤ L := by
  rw [ex3] at h
  have h1 : (nI L - nI 5).toInt = (L : Int) - 5 := pk_sub_toInt (by omega) (by decide)
  have h2 : (nI i).toInt = (i : Int) := nI_toInt (by omega)
  have h3 : ¬ (nI L - nI 5).toInt < (nI i).toInt := fun q => h (Int32.lt_iff_toInt_lt.mpr q)
  rw [h1, h2] at h3
  omega

set_option maxHeartbeats 4000000 in
set_option maxRecDepth 100000 in
theorem law_loop {P : Program} {l : Launch} {E : Env} {Z : State} {Mi : MethodId} {BE : List Frame} {ME : Method} {CO : Code} {b L nc ns : Nat} {xs : Nat → Int32} {g : Gx} {sg : SG} {a_v a_rd a_dr a_nw a_tr a_da a_i0 a_i1 a_s0 a_s1 a_s2 a_s3 a_m : Nat → Nat} (C : CallFix P Mi CO cL_law 4 Z #[Value.ref b] (cdL0 :: wsL_law) RL) (hr : ME.sig.returnType = ret) (hlocks : ME.locks = false) (hK : va_K g.1 vwCl (tyl g) Z) (hX : va_X b L xs Z Z.heap) (hL : L ≤ 2560) (hbl : b < Z.heap.size) (hSE : SE sg (fun q : Nat => Z.heap.size ≤ q) Z Z.heap) (hcs : nc ≤ room_1.cells ∧ ns ≤ room_1.slots) : ∀ (n i : Nat) (x3 : Int32) (v : VT) (rd : RT) (dr : CT) (nw : CT) (tr : CT) (da : DT) (i0 : CT) (i1 : CT) (s0 : ST) (s1 : ST) (s2 : ST) (s3 : ST) (st : AI) (now : AI) (isKept : AI) (hearers : Int32) (draft : AI) (dHearers : Int32) (dWalls : Int32) (toldWinds : Int32) (tape : AI) (taped : Int32) (pos : Int32) (frm : Int32) (sort : Int32) (value : Int32) (fault : Int32) (wrongAt : Int32) (landed : AI) (landedIn : AI) (stepped : AI) (isThere : AI) (isAt : AI) (isNext : AI) (landSum : Int64) (heardSum : Int64) (allWays : Int64) (ways : AI) (drawn : AI) (lanes : AI) (sizes : AI) (cells : AI) (torn : Int32) (before : AI) (H : Heap) (locs : List Loc) (ls : Array Slot), i ≤ L + 5 → L + 6 ≤ i + n → x3 = nI i → Rel v rd nw i0 i1 s0 s1 s2 s3 st isKept hearers tape taped fault lanes sizes cells torn → Wd g (fun q : Nat => Z.heap.size ≤ q) Z.heap (([wV g a_v a_rd a_nw a_tr a_da a_i0 a_i1 a_s0 a_s1 a_s2 a_s3 v, wR g a_rd a_dr rd, wC g a_dr dr, wC g a_nw nw, wC g a_tr tr, wD g a_da da, wC g a_i0 i0, wC g a_i1 i1, wS g a_s0 s0, wS g a_s1 s1, wS g a_s2 s2, wS g a_s3 s3, wM g a_m st now isKept hearers draft dHearers dWalls toldWinds tape taped pos frm sort value fault wrongAt landed landedIn stepped isThere isAt isNext landSum heardSum allWays ways drawn lanes sizes cells torn before] : List va_W).flatten) H locs → lv_has ls 4 [(0, .ref b), (1, .ref (a_v 0)), (2, .ref (a_m 0)), (3, .int x3)] → W P l E room_1 Z Mi #[Value.ref b] BE ME CO H locs nc ns (lw_Z BE #[Value.ref b] Z) (F0 Mi 18 ls []) := by
  have hA : ∀ q, Z.heap.size ≤ q → (fun q : Nat => Z.heap.size ≤ q) q := fun _ h => h
  have hbA : ¬ (fun q : Nat => Z.heap.size ≤ q) b := Nat.not_le.mpr hbl
  intro n
  induction n with
  | zero => intro i x3 v rd dr nw tr da i0 i1 s0 s1 s2 s3 st now isKept hearers draft dHearers dWalls toldWinds tape taped pos frm sort value fault wrongAt landed landedIn stepped isThere isAt isNext landSum heardSum allWays ways drawn lanes sizes cells torn before H locs ls h1 h2; exact absurd h2 (by omega)
  | succ n ih =>
    intro i x3 v rd dr nw tr da i0 i1 s0 s1 s2 s3 st now isKept hearers draft dHearers dWalls toldWinds tape taped pos frm sort value fault wrongAt landed landedIn stepped isThere isAt isNext landSum heardSum allWays ways drawn lanes sizes cells torn before H locs ls hi hin ex3 hR w hl
    refine lv_iload_n C.1 C.2.1 (dk_at dkL_law_0 10 rfl) rfl (lv_at hl 3 rfl) ?_
    refine lv_aload_n C.1 C.2.1 (dk_at dkL_law_0 11 rfl) rfl (lv_at hl 0 rfl) ?_
    refine va_slen C.1 C.2.1 hX hbl hbA w.2.2 (dk_at dkL_law_0 12 rfl) ?_
    refine lv_iconst (v := 5) C.1 C.2.1 (dk_at dkL_law_0 13 rfl) (by decide) ?_
    refine lv_isub C.1 C.2.1 (dk_at dkL_law_0 14 rfl) ?_
    refine lv_icmp_gt (tgt := 1439) C.1 C.2.1 (dk_at dkL_law_0 15 rfl) (by decide) (fun c1 => ?_) (fun c1 => ?_)
    · refine lv_iconst (v := 1) C.1 C.2.1 (dk_at dkL_law_23 39 rfl) (by decide) ?_
      refine va_forget (fun q hq => w.2.2.2.2 q hq) ?_
      refine W.widen (k := 600000) (n := 7302250) hcs.1 hcs.2 ?_
      exact lw_ret C.1 C.2.1 hr hlocks (dk_at dkL_law_24 0 rfl)
    · have hi5 : i + 5 ≤ L := law_lt hL hi ex3 c1
      have q0 : vp_in x3 L := by rw [ex3]; exact vp_in_nI (by omega) (by omega)
      have q1 : vp_in (x3 + 1) L := by rw [ex3, show nI i + 1 = nI (i + 1) from nI_add i 1]; exact vp_in_nI (by omega) (by omega)
      have q2 : vp_in (x3 + 2) L := by rw [ex3, show nI i + 2 = nI (i + 2) from nI_add i 2]; exact vp_in_nI (by omega) (by omega)
      have q3 : vp_in (x3 + 3) L := by rw [ex3, show nI i + 3 = nI (i + 3) from nI_add i 3]; exact vp_in_nI (by omega) (by omega)
      have q4 : vp_in (x3 + 4) L := by rw [ex3, show nI i + 4 = nI (i + 4) from nI_add i 4]; exact vp_in_nI (by omega) (by omega)
      have nx : ∀ (v : VT) (rd : RT) (dr : CT) (nw : CT) (tr : CT) (da : DT) (i0 : CT) (i1 : CT) (s0 : ST) (s1 : ST) (s2 : ST) (s3 : ST) (st : AI) (now : AI) (isKept : AI) (hearers : Int32) (draft : AI) (dHearers : Int32) (dWalls : Int32) (toldWinds : Int32) (tape : AI) (taped : Int32) (pos : Int32) (frm : Int32) (sort : Int32) (value : Int32) (fault : Int32) (wrongAt : Int32) (landed : AI) (landedIn : AI) (stepped : AI) (isThere : AI) (isAt : AI) (isNext : AI) (landSum : Int64) (heardSum : Int64) (allWays : Int64) (ways : AI) (drawn : AI) (lanes : AI) (sizes : AI) (cells : AI) (torn : Int32) (before : AI) (H : Heap) (locs : List Loc) (ls : Array Slot), Rel v rd nw i0 i1 s0 s1 s2 s3 st isKept hearers tape taped fault lanes sizes cells torn → Wd g (fun q : Nat => Z.heap.size ≤ q) Z.heap (([wV g a_v a_rd a_nw a_tr a_da a_i0 a_i1 a_s0 a_s1 a_s2 a_s3 v, wR g a_rd a_dr rd, wC g a_dr dr, wC g a_nw nw, wC g a_tr tr, wD g a_da da, wC g a_i0 i0, wC g a_i1 i1, wS g a_s0 s0, wS g a_s1 s1, wS g a_s2 s2, wS g a_s3 s3, wM g a_m st now isKept hearers draft dHearers dWalls toldWinds tape taped pos frm sort value fault wrongAt landed landedIn stepped isThere isAt isNext landSum heardSum allWays ways drawn lanes sizes cells torn before] : List va_W).flatten) H locs → lv_has ls 4 [(0, .ref b), (1, .ref (a_v 0)), (2, .ref (a_m 0)), (3, .int x3)] → W P l E room_1 Z Mi #[Value.ref b] BE ME CO H locs nc ns (lw_Z BE #[Value.ref b] Z) (F0 Mi 1433 ls []) := by
        intro v rd dr nw tr da i0 i1 s0 s1 s2 s3 st now isKept hearers draft dHearers dWalls toldWinds tape taped pos frm sort value fault wrongAt landed landedIn stepped isThere isAt isNext landSum heardSum allWays ways drawn lanes sizes cells torn before H locs ls hR w hl
        obtain ⟨y3, ey3⟩ : ∃ z : Int32, z = x3 + 5 := ⟨_, rfl⟩
        refine lv_iinc (v := y3) (lv' := [(3, .int y3), (0, .ref b), (1, .ref (a_v 0)), (2, .ref (a_m 0))]) C.1 C.2.1 (dk_at dkL_law_23 37 rfl) hl (k := 3) rfl (by rw [ey3]; rfl) (by decide) rfl (fun ls hl => ?_)
        refine lv_goto (tgt := 18) C.1 C.2.1 (dk_at dkL_law_23 38 rfl) (by decide) ?_
        exact ih (i + 5) y3 v rd dr nw tr da i0 i1 s0 s1 s2 s3 st now isKept hearers draft dHearers dWalls toldWinds tape taped pos frm sort value fault wrongAt landed landedIn stepped isThere isAt isNext landSum heardSum allWays ways drawn lanes sizes cells torn before H _ ls (by omega) (by omega) (by rw [ey3, ex3]; exact nI_add i 5) hR w (lv_sub hl [1, 2, 3, 0] rfl)
      refine lv_aload_n C.1 C.2.1 (dk_at dkL_law_0 16 rfl) rfl (lv_at hl 0 rfl) ?_
      refine lv_iload_n C.1 C.2.1 (dk_at dkL_law_0 17 rfl) rfl (lv_at hl 3 rfl) ?_
      refine va_sld C.1 C.2.1 hX hbl hbA w.2.2 q0 (dk_at dkL_law_0 18 rfl) ?_
      refine lv_bipush (v := 63) C.1 C.2.1 (dk_at dkL_law_0 19 rfl) (by decide) ?_
      refine lv_iand C.1 C.2.1 (dk_at dkL_law_0 20 rfl) ?_
      refine lv_topi (fun sw esw => ?_)
      by_cases c10 : sw = 0
      · refine lv_tableIn (tgt := 212) C.1 C.2.1 (dk_at dkL_law_0 21 rfl) (by rw [c10]; decide) (by rw [c10]; decide) (by rw [c10]; rfl) (by decide) ?_
        exact law_c0 C hK hX hbl hbA hA hSE hcs q1 q2 q3 q4 v rd dr nw tr da i0 i1 s0 s1 s2 s3 st now isKept hearers draft dHearers dWalls toldWinds tape taped pos frm sort value fault wrongAt landed landedIn stepped isThere isAt isNext landSum heardSum allWays ways drawn lanes sizes cells torn before hR w hl nx
      by_cases c11 : sw = 1
      · refine lv_tableIn (tgt := 235) C.1 C.2.1 (dk_at dkL_law_0 21 rfl) (by rw [c11]; decide) (by rw [c11]; decide) (by rw [c11]; rfl) (by decide) ?_
        exact law_c1 C hK hX hbl hbA hA hSE hcs q1 q2 q3 q4 v rd dr nw tr da i0 i1 s0 s1 s2 s3 st now isKept hearers draft dHearers dWalls toldWinds tape taped pos frm sort value fault wrongAt landed landedIn stepped isThere isAt isNext landSum heardSum allWays ways drawn lanes sizes cells torn before hR w hl nx
      by_cases c12 : sw = 2
      · refine lv_tableIn (tgt := 258) C.1 C.2.1 (dk_at dkL_law_0 21 rfl) (by rw [c12]; decide) (by rw [c12]; decide) (by rw [c12]; rfl) (by decide) ?_
        exact law_c2 C hK hX hbl hbA hA hSE hcs q1 q2 q3 q4 v rd dr nw tr da i0 i1 s0 s1 s2 s3 st now isKept hearers draft dHearers dWalls toldWinds tape taped pos frm sort value fault wrongAt landed landedIn stepped isThere isAt isNext landSum heardSum allWays ways drawn lanes sizes cells torn before hR w hl nx
      by_cases c13 : sw = 3
      · refine lv_tableIn (tgt := 271) C.1 C.2.1 (dk_at dkL_law_0 21 rfl) (by rw [c13]; decide) (by rw [c13]; decide) (by rw [c13]; rfl) (by decide) ?_
        exact law_c3 C hK hX hbl hbA hA hSE hcs q1 q2 q3 q4 v rd dr nw tr da i0 i1 s0 s1 s2 s3 st now isKept hearers draft dHearers dWalls toldWinds tape taped pos frm sort value fault wrongAt landed landedIn stepped isThere isAt isNext landSum heardSum allWays ways drawn lanes sizes cells torn before hR w hl nx
      by_cases c14 : sw = 4
      · refine lv_tableIn (tgt := 284) C.1 C.2.1 (dk_at dkL_law_0 21 rfl) (by rw [c14]; decide) (by rw [c14]; decide) (by rw [c14]; rfl) (by decide) ?_
        exact law_c4 C hK hX hbl hbA hA hSE hcs q1 q2 q3 q4 v rd dr nw tr da i0 i1 s0 s1 s2 s3 st now isKept hearers draft dHearers dWalls toldWinds tape taped pos frm sort value fault wrongAt landed landedIn stepped isThere isAt isNext landSum heardSum allWays ways drawn lanes sizes cells torn before hR w hl nx
      by_cases c15 : sw = 5
      · refine lv_tableIn (tgt := 307) C.1 C.2.1 (dk_at dkL_law_0 21 rfl) (by rw [c15]; decide) (by rw [c15]; decide) (by rw [c15]; rfl) (by decide) ?_
        exact law_c5 C hK hX hbl hbA hA hSE hcs q1 q2 q3 q4 v rd dr nw tr da i0 i1 s0 s1 s2 s3 st now isKept hearers draft dHearers dWalls toldWinds tape taped pos frm sort value fault wrongAt landed landedIn stepped isThere isAt isNext landSum heardSum allWays ways drawn lanes sizes cells torn before hR w hl nx
      by_cases c16 : sw = 6
      · refine lv_tableIn (tgt := 340) C.1 C.2.1 (dk_at dkL_law_0 21 rfl) (by rw [c16]; decide) (by rw [c16]; decide) (by rw [c16]; rfl) (by decide) ?_
        exact law_c6 C hK hX hbl hbA hA hSE hcs q1 q2 q3 q4 v rd dr nw tr da i0 i1 s0 s1 s2 s3 st now isKept hearers draft dHearers dWalls toldWinds tape taped pos frm sort value fault wrongAt landed landedIn stepped isThere isAt isNext landSum heardSum allWays ways drawn lanes sizes cells torn before hR w hl nx
      by_cases c17 : sw = 7
      · refine lv_tableIn (tgt := 363) C.1 C.2.1 (dk_at dkL_law_0 21 rfl) (by rw [c17]; decide) (by rw [c17]; decide) (by rw [c17]; rfl) (by decide) ?_
        exact law_c7 C hK hX hbl hbA hA hSE hcs q1 q2 q3 q4 v rd dr nw tr da i0 i1 s0 s1 s2 s3 st now isKept hearers draft dHearers dWalls toldWinds tape taped pos frm sort value fault wrongAt landed landedIn stepped isThere isAt isNext landSum heardSum allWays ways drawn lanes sizes cells torn before hR w hl nx
      by_cases c18 : sw = 8
      · refine lv_tableIn (tgt := 386) C.1 C.2.1 (dk_at dkL_law_0 21 rfl) (by rw [c18]; decide) (by rw [c18]; decide) (by rw [c18]; rfl) (by decide) ?_
        exact law_c8 C hK hX hbl hbA hA hSE hcs q1 q2 q3 q4 v rd dr nw tr da i0 i1 s0 s1 s2 s3 st now isKept hearers draft dHearers dWalls toldWinds tape taped pos frm sort value fault wrongAt landed landedIn stepped isThere isAt isNext landSum heardSum allWays ways drawn lanes sizes cells torn before hR w hl nx
      by_cases c19 : sw = 9
      · refine lv_tableIn (tgt := 409) C.1 C.2.1 (dk_at dkL_law_0 21 rfl) (by rw [c19]; decide) (by rw [c19]; decide) (by rw [c19]; rfl) (by decide) ?_
        exact law_c9 C hK hX hbl hbA hA hSE hcs q1 q2 q3 q4 v rd dr nw tr da i0 i1 s0 s1 s2 s3 st now isKept hearers draft dHearers dWalls toldWinds tape taped pos frm sort value fault wrongAt landed landedIn stepped isThere isAt isNext landSum heardSum allWays ways drawn lanes sizes cells torn before hR w hl nx
      by_cases c20 : sw = 10
      · refine lv_tableIn (tgt := 452) C.1 C.2.1 (dk_at dkL_law_0 21 rfl) (by rw [c20]; decide) (by rw [c20]; decide) (by rw [c20]; rfl) (by decide) ?_
        exact law_c10 C hK hX hbl hbA hA hSE hcs q1 q2 q3 q4 v rd dr nw tr da i0 i1 s0 s1 s2 s3 st now isKept hearers draft dHearers dWalls toldWinds tape taped pos frm sort value fault wrongAt landed landedIn stepped isThere isAt isNext landSum heardSum allWays ways drawn lanes sizes cells torn before hR w hl nx
      by_cases c21 : sw = 11
      · refine lv_tableIn (tgt := 485) C.1 C.2.1 (dk_at dkL_law_0 21 rfl) (by rw [c21]; decide) (by rw [c21]; decide) (by rw [c21]; rfl) (by decide) ?_
        exact law_c11 C hK hX hbl hbA hA hSE hcs q1 q2 q3 q4 v rd dr nw tr da i0 i1 s0 s1 s2 s3 st now isKept hearers draft dHearers dWalls toldWinds tape taped pos frm sort value fault wrongAt landed landedIn stepped isThere isAt isNext landSum heardSum allWays ways drawn lanes sizes cells torn before hR w hl nx
      by_cases c22 : sw = 12
      · refine lv_tableIn (tgt := 534) C.1 C.2.1 (dk_at dkL_law_0 21 rfl) (by rw [c22]; decide) (by rw [c22]; decide) (by rw [c22]; rfl) (by decide) ?_
        exact law_c12 C hK hX hbl hbA hA hSE hcs q1 q2 q3 q4 v rd dr nw tr da i0 i1 s0 s1 s2 s3 st now isKept hearers draft dHearers dWalls toldWinds tape taped pos frm sort value fault wrongAt landed landedIn stepped isThere isAt isNext landSum heardSum allWays ways drawn lanes sizes cells torn before hR w hl nx
      by_cases c23 : sw = 13
      · refine lv_tableIn (tgt := 567) C.1 C.2.1 (dk_at dkL_law_0 21 rfl) (by rw [c23]; decide) (by rw [c23]; decide) (by rw [c23]; rfl) (by decide) ?_
        exact law_c13 C hK hX hbl hbA hA hSE hcs q1 q2 q3 q4 v rd dr nw tr da i0 i1 s0 s1 s2 s3 st now isKept hearers draft dHearers dWalls toldWinds tape taped pos frm sort value fault wrongAt landed landedIn stepped isThere isAt isNext landSum heardSum allWays ways drawn lanes sizes cells torn before hR w hl nx
      by_cases c24 : sw = 14
      · refine lv_tableIn (tgt := 610) C.1 C.2.1 (dk_at dkL_law_0 21 rfl) (by rw [c24]; decide) (by rw [c24]; decide) (by rw [c24]; rfl) (by decide) ?_
        exact law_c14 C hK hX hbl hbA hA hSE hcs q1 q2 q3 q4 v rd dr nw tr da i0 i1 s0 s1 s2 s3 st now isKept hearers draft dHearers dWalls toldWinds tape taped pos frm sort value fault wrongAt landed landedIn stepped isThere isAt isNext landSum heardSum allWays ways drawn lanes sizes cells torn before hR w hl nx
      by_cases c25 : sw = 15
      · refine lv_tableIn (tgt := 643) C.1 C.2.1 (dk_at dkL_law_0 21 rfl) (by rw [c25]; decide) (by rw [c25]; decide) (by rw [c25]; rfl) (by decide) ?_
        exact law_c15 C hK hX hbl hbA hA hSE hcs q1 q2 q3 q4 v rd dr nw tr da i0 i1 s0 s1 s2 s3 st now isKept hearers draft dHearers dWalls toldWinds tape taped pos frm sort value fault wrongAt landed landedIn stepped isThere isAt isNext landSum heardSum allWays ways drawn lanes sizes cells torn before hR w hl nx
      by_cases c26 : sw = 16
      · refine lv_tableIn (tgt := 666) C.1 C.2.1 (dk_at dkL_law_0 21 rfl) (by rw [c26]; decide) (by rw [c26]; decide) (by rw [c26]; rfl) (by decide) ?_
        exact law_c16 C hK hX hbl hbA hA hSE hcs q1 q2 q3 q4 v rd dr nw tr da i0 i1 s0 s1 s2 s3 st now isKept hearers draft dHearers dWalls toldWinds tape taped pos frm sort value fault wrongAt landed landedIn stepped isThere isAt isNext landSum heardSum allWays ways drawn lanes sizes cells torn before hR w hl nx
      by_cases c27 : sw = 17
      · refine lv_tableIn (tgt := 699) C.1 C.2.1 (dk_at dkL_law_0 21 rfl) (by rw [c27]; decide) (by rw [c27]; decide) (by rw [c27]; rfl) (by decide) ?_
        exact law_c17 C hK hX hbl hbA hA hSE hcs q1 q2 q3 q4 v rd dr nw tr da i0 i1 s0 s1 s2 s3 st now isKept hearers draft dHearers dWalls toldWinds tape taped pos frm sort value fault wrongAt landed landedIn stepped isThere isAt isNext landSum heardSum allWays ways drawn lanes sizes cells torn before hR w hl nx
      by_cases c28 : sw = 18
      · refine lv_tableIn (tgt := 722) C.1 C.2.1 (dk_at dkL_law_0 21 rfl) (by rw [c28]; decide) (by rw [c28]; decide) (by rw [c28]; rfl) (by decide) ?_
        exact law_c18 C hK hX hbl hbA hA hSE hcs q1 q2 q3 q4 v rd dr nw tr da i0 i1 s0 s1 s2 s3 st now isKept hearers draft dHearers dWalls toldWinds tape taped pos frm sort value fault wrongAt landed landedIn stepped isThere isAt isNext landSum heardSum allWays ways drawn lanes sizes cells torn before hR w hl nx
      by_cases c29 : sw = 19
      · refine lv_tableIn (tgt := 745) C.1 C.2.1 (dk_at dkL_law_0 21 rfl) (by rw [c29]; decide) (by rw [c29]; decide) (by rw [c29]; rfl) (by decide) ?_
        exact law_c19 C hK hX hbl hbA hA hSE hcs q1 q2 q3 q4 v rd dr nw tr da i0 i1 s0 s1 s2 s3 st now isKept hearers draft dHearers dWalls toldWinds tape taped pos frm sort value fault wrongAt landed landedIn stepped isThere isAt isNext landSum heardSum allWays ways drawn lanes sizes cells torn before hR w hl nx
      by_cases c30 : sw = 20
      · refine lv_tableIn (tgt := 778) C.1 C.2.1 (dk_at dkL_law_0 21 rfl) (by rw [c30]; decide) (by rw [c30]; decide) (by rw [c30]; rfl) (by decide) ?_
        exact law_c20 C hK hX hbl hbA hA hSE hcs q1 q2 q3 q4 v rd dr nw tr da i0 i1 s0 s1 s2 s3 st now isKept hearers draft dHearers dWalls toldWinds tape taped pos frm sort value fault wrongAt landed landedIn stepped isThere isAt isNext landSum heardSum allWays ways drawn lanes sizes cells torn before hR w hl nx
      by_cases c31 : sw = 21
      · refine lv_tableIn (tgt := 801) C.1 C.2.1 (dk_at dkL_law_0 21 rfl) (by rw [c31]; decide) (by rw [c31]; decide) (by rw [c31]; rfl) (by decide) ?_
        exact law_c21 C hK hX hbl hbA hA hSE hcs q1 q2 q3 q4 v rd dr nw tr da i0 i1 s0 s1 s2 s3 st now isKept hearers draft dHearers dWalls toldWinds tape taped pos frm sort value fault wrongAt landed landedIn stepped isThere isAt isNext landSum heardSum allWays ways drawn lanes sizes cells torn before hR w hl nx
      by_cases c32 : sw = 22
      · refine lv_tableIn (tgt := 824) C.1 C.2.1 (dk_at dkL_law_0 21 rfl) (by rw [c32]; decide) (by rw [c32]; decide) (by rw [c32]; rfl) (by decide) ?_
        exact law_c22 C hK hX hbl hbA hA hSE hcs q1 q2 q3 q4 v rd dr nw tr da i0 i1 s0 s1 s2 s3 st now isKept hearers draft dHearers dWalls toldWinds tape taped pos frm sort value fault wrongAt landed landedIn stepped isThere isAt isNext landSum heardSum allWays ways drawn lanes sizes cells torn before hR w hl nx
      by_cases c33 : sw = 23
      · refine lv_tableIn (tgt := 857) C.1 C.2.1 (dk_at dkL_law_0 21 rfl) (by rw [c33]; decide) (by rw [c33]; decide) (by rw [c33]; rfl) (by decide) ?_
        exact law_c23 C hK hX hbl hbA hA hSE hcs q1 q2 q3 q4 v rd dr nw tr da i0 i1 s0 s1 s2 s3 st now isKept hearers draft dHearers dWalls toldWinds tape taped pos frm sort value fault wrongAt landed landedIn stepped isThere isAt isNext landSum heardSum allWays ways drawn lanes sizes cells torn before hR w hl nx
      by_cases c34 : sw = 24
      · refine lv_tableIn (tgt := 880) C.1 C.2.1 (dk_at dkL_law_0 21 rfl) (by rw [c34]; decide) (by rw [c34]; decide) (by rw [c34]; rfl) (by decide) ?_
        exact law_c24 C hK hX hbl hbA hA hSE hcs q1 q2 q3 q4 v rd dr nw tr da i0 i1 s0 s1 s2 s3 st now isKept hearers draft dHearers dWalls toldWinds tape taped pos frm sort value fault wrongAt landed landedIn stepped isThere isAt isNext landSum heardSum allWays ways drawn lanes sizes cells torn before hR w hl nx
      by_cases c35 : sw = 25
      · refine lv_tableIn (tgt := 913) C.1 C.2.1 (dk_at dkL_law_0 21 rfl) (by rw [c35]; decide) (by rw [c35]; decide) (by rw [c35]; rfl) (by decide) ?_
        exact law_c25 C hK hX hbl hbA hA hSE hcs q1 q2 q3 q4 v rd dr nw tr da i0 i1 s0 s1 s2 s3 st now isKept hearers draft dHearers dWalls toldWinds tape taped pos frm sort value fault wrongAt landed landedIn stepped isThere isAt isNext landSum heardSum allWays ways drawn lanes sizes cells torn before hR w hl nx
      by_cases c36 : sw = 26
      · refine lv_tableIn (tgt := 967) C.1 C.2.1 (dk_at dkL_law_0 21 rfl) (by rw [c36]; decide) (by rw [c36]; decide) (by rw [c36]; rfl) (by decide) ?_
        exact law_c26 C hK hX hbl hbA hA hSE hcs q1 q2 q3 q4 v rd dr nw tr da i0 i1 s0 s1 s2 s3 st now isKept hearers draft dHearers dWalls toldWinds tape taped pos frm sort value fault wrongAt landed landedIn stepped isThere isAt isNext landSum heardSum allWays ways drawn lanes sizes cells torn before hR w hl nx
      by_cases c37 : sw = 27
      · refine lv_tableIn (tgt := 1001) C.1 C.2.1 (dk_at dkL_law_0 21 rfl) (by rw [c37]; decide) (by rw [c37]; decide) (by rw [c37]; rfl) (by decide) ?_
        exact law_c27 C hK hX hbl hbA hA hSE hcs q1 q2 q3 q4 v rd dr nw tr da i0 i1 s0 s1 s2 s3 st now isKept hearers draft dHearers dWalls toldWinds tape taped pos frm sort value fault wrongAt landed landedIn stepped isThere isAt isNext landSum heardSum allWays ways drawn lanes sizes cells torn before hR w hl nx
      by_cases c38 : sw = 28
      · refine lv_tableIn (tgt := 1034) C.1 C.2.1 (dk_at dkL_law_0 21 rfl) (by rw [c38]; decide) (by rw [c38]; decide) (by rw [c38]; rfl) (by decide) ?_
        exact law_c28 C hK hX hbl hbA hA hSE hcs q1 q2 q3 q4 v rd dr nw tr da i0 i1 s0 s1 s2 s3 st now isKept hearers draft dHearers dWalls toldWinds tape taped pos frm sort value fault wrongAt landed landedIn stepped isThere isAt isNext landSum heardSum allWays ways drawn lanes sizes cells torn before hR w hl nx
      by_cases c39 : sw = 29
      · refine lv_tableIn (tgt := 1057) C.1 C.2.1 (dk_at dkL_law_0 21 rfl) (by rw [c39]; decide) (by rw [c39]; decide) (by rw [c39]; rfl) (by decide) ?_
        exact law_c29 C hK hX hbl hbA hA hSE hcs q1 q2 q3 q4 v rd dr nw tr da i0 i1 s0 s1 s2 s3 st now isKept hearers draft dHearers dWalls toldWinds tape taped pos frm sort value fault wrongAt landed landedIn stepped isThere isAt isNext landSum heardSum allWays ways drawn lanes sizes cells torn before hR w hl nx
      by_cases c40 : sw = 30
      · refine lv_tableIn (tgt := 1080) C.1 C.2.1 (dk_at dkL_law_0 21 rfl) (by rw [c40]; decide) (by rw [c40]; decide) (by rw [c40]; rfl) (by decide) ?_
        exact law_c30 C hK hX hbl hbA hA hSE hcs q1 q2 q3 q4 v rd dr nw tr da i0 i1 s0 s1 s2 s3 st now isKept hearers draft dHearers dWalls toldWinds tape taped pos frm sort value fault wrongAt landed landedIn stepped isThere isAt isNext landSum heardSum allWays ways drawn lanes sizes cells torn before hR w hl nx
      by_cases c41 : sw = 31
      · refine lv_tableIn (tgt := 1103) C.1 C.2.1 (dk_at dkL_law_0 21 rfl) (by rw [c41]; decide) (by rw [c41]; decide) (by rw [c41]; rfl) (by decide) ?_
        exact law_c31 C hK hX hbl hbA hA hSE hcs q1 q2 q3 q4 v rd dr nw tr da i0 i1 s0 s1 s2 s3 st now isKept hearers draft dHearers dWalls toldWinds tape taped pos frm sort value fault wrongAt landed landedIn stepped isThere isAt isNext landSum heardSum allWays ways drawn lanes sizes cells torn before hR w hl nx
      by_cases c42 : sw = 32
      · refine lv_tableIn (tgt := 1136) C.1 C.2.1 (dk_at dkL_law_0 21 rfl) (by rw [c42]; decide) (by rw [c42]; decide) (by rw [c42]; rfl) (by decide) ?_
        exact law_c32 C hK hX hbl hbA hA hSE hcs q1 q2 q3 q4 v rd dr nw tr da i0 i1 s0 s1 s2 s3 st now isKept hearers draft dHearers dWalls toldWinds tape taped pos frm sort value fault wrongAt landed landedIn stepped isThere isAt isNext landSum heardSum allWays ways drawn lanes sizes cells torn before hR w hl nx
      by_cases c43 : sw = 33
      · refine lv_tableIn (tgt := 1169) C.1 C.2.1 (dk_at dkL_law_0 21 rfl) (by rw [c43]; decide) (by rw [c43]; decide) (by rw [c43]; rfl) (by decide) ?_
        exact law_c33 C hK hX hbl hbA hA hSE hcs q1 q2 q3 q4 v rd dr nw tr da i0 i1 s0 s1 s2 s3 st now isKept hearers draft dHearers dWalls toldWinds tape taped pos frm sort value fault wrongAt landed landedIn stepped isThere isAt isNext landSum heardSum allWays ways drawn lanes sizes cells torn before hR w hl nx
      by_cases c44 : sw = 34
      · refine lv_tableIn (tgt := 1212) C.1 C.2.1 (dk_at dkL_law_0 21 rfl) (by rw [c44]; decide) (by rw [c44]; decide) (by rw [c44]; rfl) (by decide) ?_
        exact law_c34 C hK hX hbl hbA hA hSE hcs q1 q2 q3 q4 v rd dr nw tr da i0 i1 s0 s1 s2 s3 st now isKept hearers draft dHearers dWalls toldWinds tape taped pos frm sort value fault wrongAt landed landedIn stepped isThere isAt isNext landSum heardSum allWays ways drawn lanes sizes cells torn before hR w hl nx
      by_cases c45 : sw = 35
      · refine lv_tableIn (tgt := 1235) C.1 C.2.1 (dk_at dkL_law_0 21 rfl) (by rw [c45]; decide) (by rw [c45]; decide) (by rw [c45]; rfl) (by decide) ?_
        exact law_c35 C hK hX hbl hbA hA hSE hcs q1 q2 q3 q4 v rd dr nw tr da i0 i1 s0 s1 s2 s3 st now isKept hearers draft dHearers dWalls toldWinds tape taped pos frm sort value fault wrongAt landed landedIn stepped isThere isAt isNext landSum heardSum allWays ways drawn lanes sizes cells torn before hR w hl nx
      by_cases c46 : sw = 36
      · refine lv_tableIn (tgt := 1258) C.1 C.2.1 (dk_at dkL_law_0 21 rfl) (by rw [c46]; decide) (by rw [c46]; decide) (by rw [c46]; rfl) (by decide) ?_
        exact law_c36 C hK hX hbl hbA hA hSE hcs q1 q2 q3 q4 v rd dr nw tr da i0 i1 s0 s1 s2 s3 st now isKept hearers draft dHearers dWalls toldWinds tape taped pos frm sort value fault wrongAt landed landedIn stepped isThere isAt isNext landSum heardSum allWays ways drawn lanes sizes cells torn before hR w hl nx
      by_cases c47 : sw = 37
      · refine lv_tableIn (tgt := 1301) C.1 C.2.1 (dk_at dkL_law_0 21 rfl) (by rw [c47]; decide) (by rw [c47]; decide) (by rw [c47]; rfl) (by decide) ?_
        exact law_c37 C hK hX hbl hbA hA hSE hcs q1 q2 q3 q4 v rd dr nw tr da i0 i1 s0 s1 s2 s3 st now isKept hearers draft dHearers dWalls toldWinds tape taped pos frm sort value fault wrongAt landed landedIn stepped isThere isAt isNext landSum heardSum allWays ways drawn lanes sizes cells torn before hR w hl nx
      by_cases c48 : sw = 38
      · refine lv_tableIn (tgt := 1344) C.1 C.2.1 (dk_at dkL_law_0 21 rfl) (by rw [c48]; decide) (by rw [c48]; decide) (by rw [c48]; rfl) (by decide) ?_
        exact law_c38 C hK hX hbl hbA hA hSE hcs q1 q2 q3 q4 v rd dr nw tr da i0 i1 s0 s1 s2 s3 st now isKept hearers draft dHearers dWalls toldWinds tape taped pos frm sort value fault wrongAt landed landedIn stepped isThere isAt isNext landSum heardSum allWays ways drawn lanes sizes cells torn before hR w hl nx
      by_cases c49 : sw = 39
      · refine lv_tableIn (tgt := 1397) C.1 C.2.1 (dk_at dkL_law_0 21 rfl) (by rw [c49]; decide) (by rw [c49]; decide) (by rw [c49]; rfl) (by decide) ?_
        exact law_c39 C hK hX hbl hbA hA hSE hcs q1 q2 q3 q4 v rd dr nw tr da i0 i1 s0 s1 s2 s3 st now isKept hearers draft dHearers dWalls toldWinds tape taped pos frm sort value fault wrongAt landed landedIn stepped isThere isAt isNext landSum heardSum allWays ways drawn lanes sizes cells torn before hR w hl nx
      by_cases c50 : sw = 40
      · refine lv_tableIn (tgt := 1410) C.1 C.2.1 (dk_at dkL_law_0 21 rfl) (by rw [c50]; decide) (by rw [c50]; decide) (by rw [c50]; rfl) (by decide) ?_
        exact law_c40 C hK hX hbl hbA hA hSE hcs q1 q2 q3 q4 v rd dr nw tr da i0 i1 s0 s1 s2 s3 st now isKept hearers draft dHearers dWalls toldWinds tape taped pos frm sort value fault wrongAt landed landedIn stepped isThere isAt isNext landSum heardSum allWays ways drawn lanes sizes cells torn before hR w hl nx
      have n10 : sw.toInt ≠ 0 := fun q => c10 (by rw [← Int32.ofInt_toInt sw, q]; rfl)
      have n11 : sw.toInt ≠ 1 := fun q => c11 (by rw [← Int32.ofInt_toInt sw, q]; rfl)
      have n12 : sw.toInt ≠ 2 := fun q => c12 (by rw [← Int32.ofInt_toInt sw, q]; rfl)
      have n13 : sw.toInt ≠ 3 := fun q => c13 (by rw [← Int32.ofInt_toInt sw, q]; rfl)
      have n14 : sw.toInt ≠ 4 := fun q => c14 (by rw [← Int32.ofInt_toInt sw, q]; rfl)
      have n15 : sw.toInt ≠ 5 := fun q => c15 (by rw [← Int32.ofInt_toInt sw, q]; rfl)
      have n16 : sw.toInt ≠ 6 := fun q => c16 (by rw [← Int32.ofInt_toInt sw, q]; rfl)
      have n17 : sw.toInt ≠ 7 := fun q => c17 (by rw [← Int32.ofInt_toInt sw, q]; rfl)
      have n18 : sw.toInt ≠ 8 := fun q => c18 (by rw [← Int32.ofInt_toInt sw, q]; rfl)
      have n19 : sw.toInt ≠ 9 := fun q => c19 (by rw [← Int32.ofInt_toInt sw, q]; rfl)
      have n20 : sw.toInt ≠ 10 := fun q => c20 (by rw [← Int32.ofInt_toInt sw, q]; rfl)
      have n21 : sw.toInt ≠ 11 := fun q => c21 (by rw [← Int32.ofInt_toInt sw, q]; rfl)
      have n22 : sw.toInt ≠ 12 := fun q => c22 (by rw [← Int32.ofInt_toInt sw, q]; rfl)
      have n23 : sw.toInt ≠ 13 := fun q => c23 (by rw [← Int32.ofInt_toInt sw, q]; rfl)
      have n24 : sw.toInt ≠ 14 := fun q => c24 (by rw [← Int32.ofInt_toInt sw, q]; rfl)
      have n25 : sw.toInt ≠ 15 := fun q => c25 (by rw [← Int32.ofInt_toInt sw, q]; rfl)
      have n26 : sw.toInt ≠ 16 := fun q => c26 (by rw [← Int32.ofInt_toInt sw, q]; rfl)
      have n27 : sw.toInt ≠ 17 := fun q => c27 (by rw [← Int32.ofInt_toInt sw, q]; rfl)
      have n28 : sw.toInt ≠ 18 := fun q => c28 (by rw [← Int32.ofInt_toInt sw, q]; rfl)
      have n29 : sw.toInt ≠ 19 := fun q => c29 (by rw [← Int32.ofInt_toInt sw, q]; rfl)
      have n30 : sw.toInt ≠ 20 := fun q => c30 (by rw [← Int32.ofInt_toInt sw, q]; rfl)
      have n31 : sw.toInt ≠ 21 := fun q => c31 (by rw [← Int32.ofInt_toInt sw, q]; rfl)
      have n32 : sw.toInt ≠ 22 := fun q => c32 (by rw [← Int32.ofInt_toInt sw, q]; rfl)
      have n33 : sw.toInt ≠ 23 := fun q => c33 (by rw [← Int32.ofInt_toInt sw, q]; rfl)
      have n34 : sw.toInt ≠ 24 := fun q => c34 (by rw [← Int32.ofInt_toInt sw, q]; rfl)
      have n35 : sw.toInt ≠ 25 := fun q => c35 (by rw [← Int32.ofInt_toInt sw, q]; rfl)
      have n36 : sw.toInt ≠ 26 := fun q => c36 (by rw [← Int32.ofInt_toInt sw, q]; rfl)
      have n37 : sw.toInt ≠ 27 := fun q => c37 (by rw [← Int32.ofInt_toInt sw, q]; rfl)
      have n38 : sw.toInt ≠ 28 := fun q => c38 (by rw [← Int32.ofInt_toInt sw, q]; rfl)
      have n39 : sw.toInt ≠ 29 := fun q => c39 (by rw [← Int32.ofInt_toInt sw, q]; rfl)
      have n40 : sw.toInt ≠ 30 := fun q => c40 (by rw [← Int32.ofInt_toInt sw, q]; rfl)
      have n41 : sw.toInt ≠ 31 := fun q => c41 (by rw [← Int32.ofInt_toInt sw, q]; rfl)
      have n42 : sw.toInt ≠ 32 := fun q => c42 (by rw [← Int32.ofInt_toInt sw, q]; rfl)
      have n43 : sw.toInt ≠ 33 := fun q => c43 (by rw [← Int32.ofInt_toInt sw, q]; rfl)
      have n44 : sw.toInt ≠ 34 := fun q => c44 (by rw [← Int32.ofInt_toInt sw, q]; rfl)
      have n45 : sw.toInt ≠ 35 := fun q => c45 (by rw [← Int32.ofInt_toInt sw, q]; rfl)
      have n46 : sw.toInt ≠ 36 := fun q => c46 (by rw [← Int32.ofInt_toInt sw, q]; rfl)
      have n47 : sw.toInt ≠ 37 := fun q => c47 (by rw [← Int32.ofInt_toInt sw, q]; rfl)
      have n48 : sw.toInt ≠ 38 := fun q => c48 (by rw [← Int32.ofInt_toInt sw, q]; rfl)
      have n49 : sw.toInt ≠ 39 := fun q => c49 (by rw [← Int32.ofInt_toInt sw, q]; rfl)
      have n50 : sw.toInt ≠ 40 := fun q => c50 (by rw [← Int32.ofInt_toInt sw, q]; rfl)
      refine lv_tableOut (tgt := 1433) C.1 C.2.1 (dk_at dkL_law_0 21 rfl) (by omega) (by decide) ?_
      exact nx v rd dr nw tr da i0 i1 s0 s1 s2 s3 st now isKept hearers draft dHearers dWalls toldWinds tape taped pos frm sort value fault wrongAt landed landedIn stepped isThere isAt isNext landSum heardSum allWays ways drawn lanes sizes cells torn before H locs ls hR w hl
