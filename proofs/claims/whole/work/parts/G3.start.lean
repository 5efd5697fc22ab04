theorem q_eq {α : Type} {X F : List α} (h : F = X) : X.Perm F := by subst h; exact List.Perm.refl _
theorem start_R : ∃ (draft_1 : AI) (dHearers_1 : Int32) (dWalls_1 : Int32) (toldWinds_1 : Int32) (st_2 : AI) (isKept_2 : AI) (hearers_2 : Int32), fX6_firstDraft (fun _ => 0) 0 0 0 = some (draft_1, dHearers_1, dWalls_1, toldWinds_1) ∧ fX6_keepDraft (fun _ => 0) (fun _ => 0) 0 draft_1 dHearers_1 = some (st_2, isKept_2, hearers_2) ∧ (Rel vInit rInit cInit cInit cInit sInit sInit sInit sInit st_2 isKept_2 hearers_2 (fun _ => 0) 0 0 (upd (upd (upd (upd (fun _ => 0) 0 (-4)) 1 (-4)) 2 (-4)) 3 (-4)) (fun _ => 0) (fun _ => 0) 0) := by
  obtain ⟨d, e1, hd⟩ := m_first (fun _ => 0) 0 0 0
  obtain ⟨p1, p2, p3, p4, p5, p6, p7, p8, p9⟩ := hd
  have hf : ∀ j, j < 61 → fa_fill d (fun _ => 0) 61 (0 + j) = d (0 + j) := fun j hj => by
    rw [Nat.zero_add]; exact fa_fill_in hj
  have hC : RCc K00 cInit := ⟨by decide, fun h hh => rfl, rfl, fun s hs => absurd hs (Nat.not_lt_zero s), rfl, fun s hs => absurd hs (Nat.not_lt_zero s), rfl, fun s hs => absurd hs (Nat.not_lt_zero s), fun s hs => absurd hs (Nat.not_lt_zero s)⟩
  have hM : RCm K00 (fa_fill d (fun _ => 0) 61) 0 0 := ⟨fun x hx => by rw [hf x (by omega)]; exact p1 x hx, fun h hh => by rw [hf (8 + h) (by omega)]; exact p2 h hh, by rw [hf 43 (by omega)]; exact p3, fun s hs => absurd hs (Nat.not_lt_zero s), rfl, fun s hs => absurd hs (Nat.not_lt_zero s), by rw [hf 48 (by omega)]; exact p7, fun s hs => absurd hs (Nat.not_lt_zero s), fun s hs => absurd hs (Nat.not_lt_zero s)⟩
  have u0 : upd (upd (fun _ => (0 : Int32)) 0 0) 1 0 0 = 0 := by rw [pk_un (by decide), pk_us]
  have u1 : upd (upd (fun _ => (0 : Int32)) 0 0) 1 0 1 = 0 := by rw [pk_us]
  refine ⟨d, 0, 0, 0, fa_fill d (fun _ => 0) 61, upd (upd (fun _ => 0) 0 0) 1 0, 0, e1, m_keepD _ _ _ _ _, ⟨K00, WF_00, hC, hM⟩, ⟨?_, Or.inl u0⟩, ⟨?_, Or.inl u1⟩, ⟨0, Nat.zero_le _, rfl, rfl, fun i hi => absurd hi (Nat.not_lt_zero i)⟩, rfl, ⟨Or.inl ⟨rfl, ?_⟩, fun i hi => rfl⟩, ⟨Or.inl ⟨rfl, ?_⟩, fun i hi => rfl⟩, ⟨Or.inl ⟨rfl, ?_⟩, fun i hi => rfl⟩, ⟨Or.inl ⟨rfl, ?_⟩, fun i hi => rfl⟩, rfl⟩
  · rw [u0]
  · rw [u1]
  · rw [pk_un (by decide), pk_un (by decide), pk_un (by decide), pk_us]
  · rw [pk_un (by decide), pk_un (by decide), pk_us]
  · rw [pk_un (by decide), pk_us]
  · rw [pk_us]
theorem q_fl {α : Type} (a b c d e f g h i j k l m : List α) : (a ++ b ++ c ++ d ++ e ++ f ++ g ++ h ++ i ++ j ++ k ++ l ++ m).Perm [a, b, c, d, e, f, g, h, i, j, k, l, m].flatten := by
  have e : a ++ b ++ c ++ d ++ e ++ f ++ g ++ h ++ i ++ j ++ k ++ l ++ m = [a, b, c, d, e, f, g, h, i, j, k, l, m].flatten := by simp only [List.flatten_cons, List.flatten_nil, List.append_nil, List.append_assoc]
  rw [e]
set_option maxHeartbeats 4000000 in
set_option maxRecDepth 100000 in
theorem whole_start {p : Program} {e : Env} {s : State} {m : MethodId} {below : List Frame} {meth : Method} {c : Code} (l : Launch) {b L : Nat} {xs : Nat → Int32} (hL : L ≤ 2560) (C0 : lw_At p s m meth c b L xs) : W p l e room_1 s m #[Value.ref b] below meth c s.heap [] 0 0 (lw_Z below #[Value.ref b] s) (entryFrame m ([Value.ref b] : List Value).toArray 4) := by
  obtain ⟨hx, hb, hr, hml, hown, hts, hX, hbl, hlocks, hgv⟩ := C0
  obtain ⟨sg, hSE⟩ := start_SE hts hgv
  obtain ⟨g, hK⟩ := start_K hts
  have hB := start_B hts
  obtain ⟨draft_1, dHearers_1, dWalls_1, toldWinds_1, st_2, isKept_2, hearers_2, hf1, hf2, hR⟩ := start_R
  have C : CallFix p m c cL_law 4 s #[Value.ref b] (cdL0 :: wsL_law) RL := ⟨hx, hb, hml, hown, fun w h => hts w (by rcases List.mem_cons.mp h with h | h; exact h ▸ (lin_all _ (inr1 _ (List.mem_of_getElem? (i := 0) rfl))).1; exact (lin_all w h).1)⟩
  have hA : ∀ q : Nat, s.heap.size ≤ q → (fun q : Nat => s.heap.size ≤ q) q := fun _ h => h
  have w : Wd g (fun q : Nat => s.heap.size ≤ q) s.heap [] s.heap [] := ⟨fun k q h => by simp at h, ⟨fun i j p q h => by simp at h, fun k q h => by simp at h⟩, va_S.rf⟩
  have hl := lv_entry ([.ref b]) (n := 4) (Nat.le_of_ble_eq_true rfl)
  rw [lg_entry_eq]
  generalize (lg_sl ([.ref b]) ++ List.replicate (4 - (lg_sl ([.ref b])).length) Slot.unset).toArray = ls at hl ⊢
  have hl : lv_has ls 4 [(0, .ref b)] := hl
  refine r_new (ci := 4) (fs := [.null, .null, .null, .null, .null, .null, .null, .null, .int 0]) C hK w hA (fun w h => List.mem_cons_of_mem _ (inlX5 w h)) tyX5 tyX5_ok (List.mem_cons_of_mem _ (inr1 _ (List.mem_of_getElem? (i := 0) rfl))) (List.mem_cons_of_mem _ (inr1 _ (List.mem_of_getElem? (i := 1) rfl))) (List.mem_cons_of_mem _ (inr1 _ (List.mem_of_getElem? (i := 2) rfl))) rfl (fun j hj => by rcases (show j = 0 ∨ j = 1 ∨ j = 2 ∨ j = 3 ∨ j = 4 ∨ j = 5 ∨ j = 6 ∨ j = 7 ∨ j = 8 by omega) with rfl | rfl | rfl | rfl | rfl | rfl | rfl | rfl | rfl <;> rfl) (Nat.le_of_ble_eq_true rfl) (Nat.le_of_ble_eq_true rfl) (dk_at dkL_law_0 0 rfl) (fun qv H w => ?_)
  refine lv_dup C.1 C.2.1 (dk_at dkL_law_0 1 rfl) rfl ?_
  refine r_ini (rest := [.ref qv]) (wr := []) C (kX5_init l g _ qv) (cwI0 C (inr1 _ (List.mem_of_getElem? (i := 6) rfl)) mwX5_init rfl hdX5_init ⟨Nat.le_of_ble_eq_true rfl, Nat.le_of_ble_eq_true rfl⟩) BxV_blind (BxV_warm hB) hK w hA [0] [] (by decide) rfl rfl (by decide) (by decide) hl.1 rfl (Nat.le_of_ble_eq_true rfl) ⟨Nat.le_of_ble_eq_true rfl, Nat.le_of_ble_eq_true rfl⟩ (dk_at dkL_law_0 2 rfl) (fun ai H locs eai w9 => ?_)
  try dsimp only at eai
  subst eai
  have w : Wd g (fun q : Nat => s.heap.size ≤ q) s.heap (wV g (ai 0) (ai 1) (ai 3) (ai 4) (ai 5) (ai 6) (ai 7) (ai 8) (ai 9) (ai 10) (ai 11) vInit ++ wR g (ai 1) (ai 2) rInit ++ wC g (ai 2) cInit ++ wC g (ai 3) cInit ++ wC g (ai 4) cInit ++ wD g (ai 5) dInit ++ wC g (ai 6) cInit ++ wC g (ai 7) cInit ++ wS g (ai 8) sInit ++ wS g (ai 9) sInit ++ wS g (ai 10) sInit ++ wS g (ai 11) sInit) H _ := w9
  obtain ⟨WR, hWR⟩ : ∃ F : va_W, F = (wV g (ai 0) (ai 1) (ai 3) (ai 4) (ai 5) (ai 6) (ai 7) (ai 8) (ai 9) (ai 10) (ai 11) vInit ++ wR g (ai 1) (ai 2) rInit ++ wC g (ai 2) cInit ++ wC g (ai 3) cInit ++ wC g (ai 4) cInit ++ wD g (ai 5) dInit ++ wC g (ai 6) cInit ++ wC g (ai 7) cInit ++ wS g (ai 8) sInit ++ wS g (ai 9) sInit ++ wS g (ai 10) sInit ++ wS g (ai 11) sInit) := ⟨_, rfl⟩
  have w : Wd g (fun q : Nat => s.heap.size ≤ q) s.heap WR H _ := Wd_perm (q_eq hWR) w
  refine lv_astore_n (lv' := [(1, .ref (ai 0 0)), (0, .ref b)]) C.1 C.2.1 (dk_at dkL_law_0 3 rfl) rfl hl (by decide) rfl (fun ls hl => ?_)
  refine r_new (ci := 5) (fs := [.null, .null, .null, .int 0, .null, .int 0, .int 0, .int 0, .null, .int 0, .int 0, .int 0, .int 0, .int 0, .int 0, .int 0, .null, .null, .null, .null, .null, .null, .long 0, .long 0, .long 0, .null, .null, .null, .null, .null, .int 0, .null]) C hK w hA (fun w h => List.mem_cons_of_mem _ (inlX6 w h)) tyX6 tyX6_ok (List.mem_cons_of_mem _ (inr1 _ (List.mem_of_getElem? (i := 3) rfl))) (List.mem_cons_of_mem _ (inr1 _ (List.mem_of_getElem? (i := 4) rfl))) (List.mem_cons_of_mem _ (inr1 _ (List.mem_of_getElem? (i := 5) rfl))) rfl (fun j hj => by rcases (show j = 0 ∨ j = 1 ∨ j = 2 ∨ j = 3 ∨ j = 4 ∨ j = 5 ∨ j = 6 ∨ j = 7 ∨ j = 8 ∨ j = 9 ∨ j = 10 ∨ j = 11 ∨ j = 12 ∨ j = 13 ∨ j = 14 ∨ j = 15 ∨ j = 16 ∨ j = 17 ∨ j = 18 ∨ j = 19 ∨ j = 20 ∨ j = 21 ∨ j = 22 ∨ j = 23 ∨ j = 24 ∨ j = 25 ∨ j = 26 ∨ j = 27 ∨ j = 28 ∨ j = 29 ∨ j = 30 ∨ j = 31 by omega) with rfl | rfl | rfl | rfl | rfl | rfl | rfl | rfl | rfl | rfl | rfl | rfl | rfl | rfl | rfl | rfl | rfl | rfl | rfl | rfl | rfl | rfl | rfl | rfl | rfl | rfl | rfl | rfl | rfl | rfl | rfl | rfl <;> rfl) (Nat.le_of_ble_eq_true rfl) (Nat.le_of_ble_eq_true rfl) (dk_at dkL_law_0 4 rfl) (fun qm H w => ?_)
  have w : Wd g (fun q : Nat => s.heap.size ≤ q) s.heap (WR ++ [(qm, .inr (5, [.null, .null, .null, .int 0, .null, .int 0, .int 0, .int 0, .null, .int 0, .int 0, .int 0, .int 0, .int 0, .int 0, .int 0, .null, .null, .null, .null, .null, .null, .long 0, .long 0, .long 0, .null, .null, .null, .null, .null, .int 0, .null]))]) H _ := w
  refine lv_dup C.1 C.2.1 (dk_at dkL_law_0 5 rfl) rfl ?_
  refine r_ini (rest := [.ref qm]) (wr := WR) C (kX6_init l g _ qm draft_1 dHearers_1 dWalls_1 toldWinds_1 hf1 st_2 isKept_2 hearers_2 hf2) (cwI0 C (inr4 _ (List.mem_of_getElem? (i := 0) rfl)) mwX6_init rfl hdX6_init ⟨Nat.le_of_ble_eq_true rfl, Nat.le_of_ble_eq_true rfl⟩) (fun _ _ _ _ h => h) (fun _ _ => trivial) hK w hA _ _ (one_1 WR) (one_2 WR _) (one_3 WR _) (one_4 WR) (one_5 WR) hl.1 rfl (Nat.le_of_ble_eq_true rfl) ⟨Nat.le_of_ble_eq_true rfl, Nat.le_of_ble_eq_true rfl⟩ (dk_at dkL_law_0 6 rfl) (fun am H locs eam w9 => ?_)
  try dsimp only at eam
  subst eam
  have w : Wd g (fun q : Nat => s.heap.size ≤ q) s.heap (WR ++ wM g am st_2 (fun _ => 0) isKept_2 hearers_2 draft_1 dHearers_1 dWalls_1 toldWinds_1 (fun _ => 0) 0 0 0 0 0 0 0 (fun _ => 0) (fun _ => 0) (fun _ => 0) (fun _ => 0) (fun _ => 0) (fun _ => 0) 0 0 0 (fun _ => 0) (fun _ => 0) (upd (upd (upd (upd (fun _ => 0) 0 (-4)) 1 (-4)) 2 (-4)) 3 (-4)) (fun _ => 0) (fun _ => 0) 0 (fun _ => 0)) H _ := w9
  subst hWR
  have w := Wd_perm (q_fl _ _ _ _ _ _ _ _ _ _ _ _ _) w
  refine lv_astore_n (lv' := [(2, .ref (am 0)), (1, .ref (ai 0 0)), (0, .ref b)]) C.1 C.2.1 (dk_at dkL_law_0 7 rfl) rfl hl (by decide) rfl (fun ls hl => ?_)
  refine lv_iconst (v := 0) C.1 C.2.1 (dk_at dkL_law_0 8 rfl) (by decide) ?_
  refine lv_istore_n (lv' := [(3, .int 0), (2, .ref (am 0)), (1, .ref (ai 0 0)), (0, .ref b)]) C.1 C.2.1 (dk_at dkL_law_0 9 rfl) rfl hl (by decide) rfl (fun ls hl => ?_)
  exact law_loop (a_v := ai 0) (a_rd := ai 1) (a_dr := ai 2) (a_nw := ai 3) (a_tr := ai 4) (a_da := ai 5) (a_i0 := ai 6) (a_i1 := ai 7) (a_s0 := ai 8) (a_s1 := ai 9) (a_s2 := ai 10) (a_s3 := ai 11) (a_m := am) C hr hlocks hK hX hL hbl hSE ⟨Nat.le_of_ble_eq_true rfl, Nat.le_of_ble_eq_true rfl⟩ (L + 6) 0 0 vInit rInit cInit cInit cInit dInit cInit cInit sInit sInit sInit sInit st_2 (fun _ => 0) isKept_2 hearers_2 draft_1 dHearers_1 dWalls_1 toldWinds_1 (fun _ => 0) 0 0 0 0 0 0 0 (fun _ => 0) (fun _ => 0) (fun _ => 0) (fun _ => 0) (fun _ => 0) (fun _ => 0) 0 0 0 (fun _ => 0) (fun _ => 0) (upd (upd (upd (upd (fun _ => 0) 0 (-4)) 1 (-4)) 2 (-4)) 3 (-4)) (fun _ => 0) (fun _ => 0) 0 (fun _ => 0) H _ ls (by omega) (by omega) rfl hR w (lv_sub hl [3, 2, 1, 0] rfl)
set_option maxHeartbeats 4000000 in
theorem lw_walk (l : Launch) (b : Addr) (xs : List Int32) : MetFree l x (headSpec (Jvm.Cond.code x code maxLocals ret :: tables_1) room_1) (lw_P b xs) (fun _ _ _ _ _ => True) lw_Q := by
  refine MetFree.of_bodyS (code := code) (maxLocals := maxLocals) (ret := ret) (by decide) ?_ ?_
  · intro args s m h hn
    obtain ⟨meth, c, h1, h2, h3, h4, h5, h6, -, -⟩ := Cond.code_spec hn (atoms_spec (ws := Jvm.Cond.code x code maxLocals ret :: tables_1) h _ List.mem_cons_self)
    exact ⟨meth, c, h1, h2, h3, h4, h5, h6⟩
  · intro p e s m args below meth c s₁ B hml0 hP _
    obtain ⟨rfl, hx, hbd, hgv⟩ := hP
    obtain ⟨scr, harrAt, hlist, hof, hsmall⟩ := hx
    obtain ⟨hcb, hkn, -, -⟩ := State.arrayAt?_spec harrAt
    have hown : s.vm.findClass R_law = some m.cls := findClass_of_methodNamed B.named
    have hts0 : ∀ c ∈ (Jvm.Cond.code x code maxLocals ret :: tables_1), c.before #[Value.ref b] s = true := atoms_spec (ws := Jvm.Cond.code x code maxLocals ret :: tables_1) B.pre
    have hts : ∀ w ∈ lw_tbl, w.before #[Value.ref b] s = true := k2_hts_sels lw_privs (fun w hw => hts0 w (List.mem_cons_of_mem _ hw)) lw_privs_ok
    have hml : c.maxLocals = 4 := B.maxLocals_eq (hts0 _ List.mem_cons_self)
    have X₀ : Stand p l e room_1 s m #[Value.ref b] below meth c s₁ [] 0 0 := Stand.of_body B
    have hh0 : s₁.heap = s.heap := by rw [B.state]; rfl
    have hsz : scr.slots.size = xs.length := by rw [← Array.length_toList, hlist, List.length_map]
    have hval : ∀ j : Nat, j < xs.length → scr.slots[j]? = some (.int (xs.getD j 0)) := fun j hj => by
      rw [← Array.getElem?_toList, hlist]
      simp [hj]
    have hbl : b < s.heap.size := (Array.getElem?_eq_some_iff.mp hcb).1
    have hX : va_X b xs.length (fun j => xs.getD j 0) s s.heap := ⟨scr, hcb, hof, hkn, hsz, hval⟩
    have K : W p l e room_1 s m #[Value.ref b] below meth c s₁.heap [] 0 0 (lw_Z below #[Value.ref b] s) (entryFrame m ([Value.ref b] : List Value).toArray 4) := by
      rw [hh0]
      exact whole_start l hbd ⟨B.exec, B.bytes, B.returns, hml, hown, hts, hX, hbl, B.notSynchronized, hgv⟩
    obtain ⟨t, a1, o, b1, b2, b3⟩ := K s₁ rfl X₀
    exact ⟨t, o, a1, b1, b2, b3⟩
theorem lw_pre_spec {args : Array Value} {s : State} (h : (Jvm.Cond.and given_1 narrow_1).before args s = true) (hr : rest_1_c.before args s = true) : ∃ (b : Addr) (xs : List Int32), lw_P b xs args s := by
  have hs := flat_of_before _ h
  have hq := flat_of_before _ hr
  have hc : (Cond.count 1).before args s = true := hs _ (by decide +kernel)
  have harr : (Cond.arrayOf (.arg 0) .int).before args s = true := hs _ (by decide +kernel)
  have hle : (Cond.le (.length (.arg 0)) (.int 2560)).before args s = true := hs _ (by decide +kernel)
  have hlen : (Cond.isInt (.length (.arg 0))).before args s = true := hq _ (by decide +kernel)
  have hall : (Cond.all (.arg 0) (.isInt (.elem (.arg 0) (.index 0)))).before args s = true := hq _ (by decide +kernel)
  obtain ⟨b, xs, hb, hx⟩ := State.ints_of_pre rfl harr hlen hall
  have hsm : xs.length < 2 ^ 31 := hx.choose_spec.2.2.2
  have hev : (Term.length (.arg 0)).eval args s none [] s = some (.int xs.length.toInt32) := hx.length_eval hb
  have hv := Cond.le_ints hev (show (Term.int 2560).eval args s none [] s = some (.int 2560) from rfl)
  have hd : xs.length.toInt32 ≤ 2560 := by
    simpa [Cond.before, Cond.holds, hv] using hle
  have hN : xs.length ≤ 2560 := (Int32.ofNat_le_ofNat hsm (by decide)).mp (show Int32.ofNat xs.length ≤ Int32.ofNat 2560 from hd)
  exact ⟨b, xs, Cond.one_arg hc (show args[0]? = some (.ref b) from hb), hx, hN, h⟩
theorem lw_comes (l : Launch) : Comes l x (Jvm.Cond.code x code maxLocals ret :: tables_1) room_1 (fun tb e args s => Calls_1 tb e args s ∧ rest_1 tb e args s ∧ Pre_1 tb e args s)
    (fun _ _ args s o t => lw_Q args s o t) := by
  intro p e ha hc hk s m args below hf hfit hheap happ hpre
  obtain ⟨b, xs, hP⟩ := lw_pre_spec hpre.2.2 hpre.2.1
  obtain ⟨k, o, h1, h2, h3, hQ⟩ := lw_walk l b xs p e ha hc hk s m args below hf ((Spec.applies_iff_loose hf).mp happ).1 hP trivial
  exact ⟨k, o, h1, h2, h3, hQ⟩
theorem lw_frame {s t : State} {o : Outcome} {args : Array Value} (h : Framed s o t [] 600000 7302250) :
    Framed s o t (fieldLocs frame_1_writes args s ++ arrayLocs frame_1_arrays args s ++ staticLocs frame_1_statics s) 600000 7302250 := h
theorem lw_limb (L : Cond) (hL : ∀ (args : Array Value) (s t : State), L.after args s (.returned (some (.int 1))) t = true) :
    ArmFor flags0 classFile x code maxLocals ret World_1 tables_1 room_1 Calls_1 rest_1 Pre_1
      (fun tb e a s o t => postC L tb e a s o t ∧ Framed s o t (fieldLocs frame_1_writes a s ++ arrayLocs frame_1_arrays a s ++ staticLocs frame_1_statics s) 600000 7302250) := by
  intro l _ _ _ p e ha hc hk s m args below hf hfit hheap happ hpre
  obtain ⟨k, o, h1, h2, h3, rfl, hF⟩ := lw_comes l p e ha hc hk s m args below hf hfit hheap happ hpre
  exact ⟨k, _, h1, h2, h3, hL args s _, lw_frame hF⟩
theorem i_vc : Claimed_1_1 ∧ Claimed_1_2 := ⟨lw_limb limb_1_1 (fun args s t => by simp [limb_1_1, Cond.after, Cond.holds, Cond.value]), lw_limb limb_1_2 (fun args s t => Cond.after_iff.mpr (by
  first | (rw [show limb_1_2 = Cond.eq .result (.int 1) from rfl, Cond.eq_ints (x := 1) (y := 1) rfl rfl]; simp; done) | (simp [limb_1_2, Cond.value, Term.eval]; done)))⟩

