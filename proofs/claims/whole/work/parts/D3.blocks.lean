-- worlds in blocks: a call's part is some of the blocks
theorem flat_perm {α : Type} {l1 l2 : List (List α)} (h : l1.Perm l2) : l1.flatten.Perm l2.flatten := by
  induction h with
  | nil => exact List.Perm.refl _
  | cons x _ ih => simp only [List.flatten_cons]; exact List.Perm.append_left x ih
  | swap x y l =>
    simp only [List.flatten_cons]
    rw [← List.append_assoc, ← List.append_assoc]
    exact List.Perm.append_right _ List.perm_append_comm
  | trans _ _ h1 h2 => exact h1.trans h2
theorem blk_range {α : Type} (bs : List (List α)) : (List.range bs.length).map (fun i => bs.getD i []) = bs := by
  apply List.ext_getElem
  · simp
  · intro i h1 h2
    simp at h1 ⊢
    rw [List.getElem?_eq_getElem h2]
    rfl
theorem blk_perm {α : Type} (bs : List (List α)) (is : List Nat) (h : is.Perm (List.range bs.length)) : ((is.map (fun i => bs.getD i [])).flatten).Perm bs.flatten := by
  have h1 := flat_perm (h.map (fun i => bs.getD i []))
  rw [blk_range] at h1
  exact h1
theorem nd_get {α : Type} {l : List α} : l.Nodup ↔ ∀ (i j : Nat), i < j → j < l.length → l[i]? ≠ l[j]? := by
  unfold List.Nodup
  rw [List.pairwise_iff_getElem]
  constructor
  · intro h i j hij hj e
    rw [List.getElem?_eq_getElem (by omega), List.getElem?_eq_getElem hj] at e
    exact h i j (by omega) hj hij (Option.some.inj e)
  · intro h i j hi hj hij e
    exact h i j hij hj (by rw [List.getElem?_eq_getElem hi, List.getElem?_eq_getElem hj, e])
theorem va_P_mem {D : va_G} {cl : List vw_C} {ws : va_W} {H : Heap} : va_P D cl ws H ↔ ∀ q ∈ ws, va_at D cl q H := ⟨fun h q hq => by
    obtain ⟨k, hk⟩ := List.getElem?_of_mem hq
    exact h k q hk, fun h k q hq => h q (List.mem_of_getElem? hq)⟩
theorem va_D_nd {A : Nat → Prop} {ws : va_W} : va_D A ws ↔ (ws.map Prod.fst).Nodup ∧ ∀ q ∈ ws, A q.1 := by
  constructor
  · intro h
    refine ⟨?_, fun q hq => by obtain ⟨k, hk⟩ := List.getElem?_of_mem hq; exact h.2 k q hk⟩
    rw [nd_get]
    intro i j hij hj
    rw [List.length_map] at hj
    rw [List.getElem?_map, List.getElem?_map]
    have hi : i < ws.length := by omega
    rw [List.getElem?_eq_getElem hi, List.getElem?_eq_getElem hj]
    intro e
    have e1 : (ws[i]).1 = (ws[j]).1 := Option.some.inj e
    have := h.1 i j ws[i] ws[j] (List.getElem?_eq_getElem hi) (List.getElem?_eq_getElem hj) e1
    omega
  · intro h
    refine ⟨fun i j p q hp hq hpq => ?_, fun k q hq => h.2 q (List.mem_of_getElem? hq)⟩
    have hi := (List.getElem?_eq_some_iff.mp hp).1
    have hj := (List.getElem?_eq_some_iff.mp hq).1
    rcases Nat.lt_trichotomy i j with c | c | c
    · exact absurd (by rw [List.getElem?_map, List.getElem?_map, hp, hq]; exact congrArg some hpq) ((nd_get.mp h.1) i j c (by rw [List.length_map]; exact hj))
    · exact c
    · exact absurd (by rw [List.getElem?_map, List.getElem?_map, hp, hq]; exact congrArg some hpq.symm) ((nd_get.mp h.1) j i c (by rw [List.length_map]; exact hi))
theorem Wd_perm {g : Gx} {A : Nat → Prop} {H0 H : Heap} {locs : List Loc} {ws ws' : va_W} (h : ws.Perm ws') (w : Wd g A H0 ws H locs) : Wd g A H0 ws' H locs := by
  refine ⟨va_P_mem.mpr (fun q hq => va_P_mem.mp w.1 q (h.mem_iff.mpr hq)), va_D_nd.mpr ⟨(h.map Prod.fst).nodup_iff.mp (va_D_nd.mp w.2.1).1, fun q hq => (va_D_nd.mp w.2.1).2 q (h.mem_iff.mpr hq)⟩, w.2.2⟩
/-- the parts of a world in two pieces -/
theorem is_l {α : Type} (a b : List α) : (List.range a.length).map (fun i => (a ++ b)[i]?) = a.map some := by
  apply List.ext_getElem
  · simp
  · intro i h1 h2
    simp at h1 ⊢
    rw [List.getElem?_append_left h1, List.getElem?_eq_getElem h1]
theorem is_r {α : Type} (a b : List α) : ((List.range b.length).map (fun i => a.length + i)).map (fun i => (a ++ b)[i]?) = b.map some := by
  apply List.ext_getElem
  · simp
  · intro i h1 h2
    simp at h1 ⊢
    rw [List.getElem?_append_right (by omega)]
    rw [show a.length + i - a.length = i by omega, List.getElem?_eq_getElem h1]
theorem va_nd_of : ∀ {l : List Nat}, l.Nodup → va_nd l = true
  | [], _ => rfl
  | x :: l, h => by
    have h1 := List.nodup_cons.mp h
    simp only [va_nd, Bool.and_eq_true]
    have h2 := va_nd_of h1.2
    refine ⟨?_, h2⟩
    simpa using h1.1
section BK
variable {p : Program} {l : Launch} {e : Env} {R : Room} {s : State} {m : MethodId} {args : Array Value} {below : List Frame} {meth : Method} {c : Code} {H : Heap} {locs : List Loc} {cells slots : Nat} {Q : State → Prop}
variable {cc : ByteArray} {pc nL : Nat} {ls : Array Slot} {rest st0 : List Value} {Ts : List Cond} {own : String} {g : Gx} {A : Nat → Prop} {H0 : Heap} {a : Nat} {sg : SG}
variable {y : MethodName} {wsc : List Cond} {rm : Room} {As : List Value} {wc w1 : va_W} {b : Addr} {Cn : String} {bytes : ByteArray} {maxL n index ci : Nat} {ret : Option FieldType} {T : u_T} {N : Nat} {fs : List Value} {bs bs' : List va_W}
theorem blk_pre (w : Wd g A H0 bs.flatten H locs) (isC : List Nat) (hwc : wc = (isC.map (fun i => bs.getD i [])).flatten) : va_P g.1 vwCl wc H := by
  rw [hwc]
  refine va_P_mem.mpr (fun q hq => va_P_mem.mp w.1 q ?_)
  obtain ⟨x, hx, hqx⟩ := List.mem_flatten.mp hq
  obtain ⟨i, -, rfl⟩ := List.mem_map.mp hx
  by_cases hi : i < bs.length
  · refine List.mem_flatten.mpr ⟨bs[i], List.getElem_mem hi, ?_⟩
    rw [List.getD_eq_getElem?_getD, List.getElem?_eq_getElem hi] at hqx
    exact hqx
  · rw [List.getD_eq_getElem?_getD, List.getElem?_eq_none (by omega)] at hqx
    exact absurd hqx List.not_mem_nil
theorem blk_cut (w : Wd g A H0 bs.flatten H locs) (isC isR : List Nat) (hp : (isR ++ isC).Perm (List.range bs.length)) (hwc : wc = (isC.map (fun i => bs.getD i [])).flatten) : Wd g A H0 ((isR.map (fun i => bs.getD i [])).flatten ++ wc) H locs := by
  have h := (blk_perm bs (isR ++ isC) hp).symm
  rw [List.map_append, List.flatten_append, ← hwc] at h
  exact Wd_perm h w
theorem blk_back (isC isR : List Nat) (hlen : bs'.length = bs.length) (hp : (isR ++ isC).Perm (List.range bs.length)) (hsame : isR.map (fun i => bs.getD i []) = isR.map (fun i => bs'.getD i [])) (hw1 : w1 = (isC.map (fun i => bs'.getD i [])).flatten) (w : Wd g A H0 ((isR.map (fun i => bs.getD i [])).flatten ++ w1) H locs) : Wd g A H0 bs'.flatten H locs := by
  rw [hsame, hw1, ← List.flatten_append, ← List.map_append] at w
  exact Wd_perm (blk_perm bs' (isR ++ isC) (by rw [hlen]; exact hp)) w
theorem b_ro {r : Int32} (C : CallFix p m c cc nL s args Ts own) (hM : Met l y wsc rm (va_Pc (.ref b :: As) (RO g wc)) (vp_Si (fun x => x = r)) 0 0 (fun _ => False)) (cw : CallW R s args own Cn index y bytes maxL ret wsc rm 0 0 n) (hK : va_K g.1 vwCl (tyl g) s) (w : Wd g A H0 bs.flatten H locs) (isC : List Nat) (hwc : wc = (isC.map (fun i => bs.getD i [])).flatten) (he : wc[0]? = some (b, .inr (ci, fs))) (hc : vwCl[ci]? = some (Cn, T, N)) (hn : As.length = n) (hsz : ls.size = nL) (hst : st0 = As.reverse ++ .ref b :: rest) (hW : (rest.map fun v => v.category).sum ≤ 8) (hcs : cells ≤ R.cells ∧ slots ≤ R.slots) (hdg : decode cc pc = .ok (.invokevirtual index, 3))
    (kk : W p l e R s m args below meth c H locs cells slots Q (F0 m (pc + 3) ls (.int r :: rest))) : W p l e R s m args below meth c H locs cells slots Q (F0 m pc ls st0) :=
  r_roV C hM cw hK (blk_pre w isC hwc) he hc hn hsz hst hW hcs hdg kk
theorem blk_lists (wr wc : va_W) : va_nd ((List.range wc.length).map (fun i => wr.length + i)) = true ∧ va_nd (List.range wr.length) = true ∧ (∀ i ∈ List.range wr.length, i ∉ (List.range wc.length).map (fun i => wr.length + i)) := by
  refine ⟨va_nd_of ?_, va_nd_of List.nodup_range, fun i hi h => ?_⟩
  · refine nd_get.mpr (fun i j hij hj => ?_)
    rw [List.length_map, List.length_range] at hj
    rw [List.getElem?_map, List.getElem?_map, List.getElem?_range (by omega), List.getElem?_range hj]
    intro e
    have : wr.length + i = wr.length + j := Option.some.inj e
    omega
  · obtain ⟨j, -, rfl⟩ := List.mem_map.mp h
    have := List.mem_range.mp hi
    omega
theorem b_rwi {r : Int32} (C : CallFix p m c cc nL s args Ts own) (hM : Met l y wsc rm (va_Pc (.ref b :: As) (RWp g H.size wc)) (va_Qi (fun x (_ : Unit) => x = r) (fun _ => RWq g (va_A wc H.size) w1) (va_A wc H.size)) 0 0 (va_A wc H.size)) (cw : CallW R s args own Cn index y bytes maxL ret wsc rm 0 0 n) (hK : va_K g.1 vwCl (tyl g) s) (w : Wd g A H0 bs.flatten H locs) (hA : ∀ q, H0.size ≤ q → A q) (isC isR : List Nat) (nb : Nat) (hnb : bs.length = nb) (hp : (isR ++ isC).Perm (List.range nb)) (hwc : wc = (isC.map (fun i => bs.getD i [])).flatten) (hlen : bs'.length = bs.length) (bR : List va_W) (hR1 : isR.map (fun i => bs.getD i []) = bR) (hR2 : isR.map (fun i => bs'.getD i []) = bR) (hw1 : w1 = (isC.map (fun i => bs'.getD i [])).flatten) (he : wc[0]? = some (b, .inr (ci, fs))) (hc : vwCl[ci]? = some (Cn, T, N)) (hn : As.length = n) (hsz : ls.size = nL) (hst : st0 = As.reverse ++ .ref b :: rest) (hW : (rest.map fun v => v.category).sum ≤ 8) (hcs : cells ≤ R.cells ∧ slots ≤ R.slots) (hdg : decode cc pc = .ok (.invokevirtual index, 3))
    (kk : ∀ (H1 : Heap) (locs1 : List Loc), Wd g A H0 bs'.flatten H1 locs1 → W p l e R s m args below meth c H1 locs1 cells slots Q (F0 m (pc + 3) ls (.int r :: rest))) : W p l e R s m args below meth c H locs cells slots Q (F0 m pc ls st0) := by
  subst hnb
  have w0 := blk_cut w isC isR hp hwc
  generalize hwr : (isR.map (fun i => bs.getD i [])).flatten = wr at w0
  obtain ⟨n1, n2, n3⟩ := blk_lists wr wc
  refine r_rwi (wr := wr) (ws' := wr ++ w1) C hM cw hK w0 hA _ (List.range wr.length) (List.range (wr ++ w1).length) n1 (is_r wr wc) (is_l wr wc) n2 n3 (by have := is_l (wr ++ w1) []; rw [List.append_nil] at this; exact this) (va_nd_of List.nodup_range) he hc hn hsz hst hW hcs hdg (fun H1 l1 w2 => kk H1 l1 ?_)
  rw [← hwr] at w2
  exact blk_back isC isR hlen hp (hR1.trans hR2.symm) hw1 w2
theorem b_rwl {r : Int64} (C : CallFix p m c cc nL s args Ts own) (hM : Met l y wsc rm (va_Pc (.ref b :: As) (RWp g H.size wc)) (va_Ql (fun x (_ : Unit) => x = r) (fun _ => RWq g (va_A wc H.size) w1) (va_A wc H.size)) 0 0 (va_A wc H.size)) (cw : CallW R s args own Cn index y bytes maxL ret wsc rm 0 0 n) (hK : va_K g.1 vwCl (tyl g) s) (w : Wd g A H0 bs.flatten H locs) (hA : ∀ q, H0.size ≤ q → A q) (isC isR : List Nat) (nb : Nat) (hnb : bs.length = nb) (hp : (isR ++ isC).Perm (List.range nb)) (hwc : wc = (isC.map (fun i => bs.getD i [])).flatten) (hlen : bs'.length = bs.length) (bR : List va_W) (hR1 : isR.map (fun i => bs.getD i []) = bR) (hR2 : isR.map (fun i => bs'.getD i []) = bR) (hw1 : w1 = (isC.map (fun i => bs'.getD i [])).flatten) (he : wc[0]? = some (b, .inr (ci, fs))) (hc : vwCl[ci]? = some (Cn, T, N)) (hn : As.length = n) (hsz : ls.size = nL) (hst : st0 = As.reverse ++ .ref b :: rest) (hW : (rest.map fun v => v.category).sum ≤ 8) (hcs : cells ≤ R.cells ∧ slots ≤ R.slots) (hdg : decode cc pc = .ok (.invokevirtual index, 3))
    (kk : ∀ (H1 : Heap) (locs1 : List Loc), Wd g A H0 bs'.flatten H1 locs1 → W p l e R s m args below meth c H1 locs1 cells slots Q (F0 m (pc + 3) ls (.long r :: rest))) : W p l e R s m args below meth c H locs cells slots Q (F0 m pc ls st0) := by
  subst hnb
  have w0 := blk_cut w isC isR hp hwc
  generalize hwr : (isR.map (fun i => bs.getD i [])).flatten = wr at w0
  obtain ⟨n1, n2, n3⟩ := blk_lists wr wc
  refine r_rwl (wr := wr) (ws' := wr ++ w1) C hM cw hK w0 hA _ (List.range wr.length) (List.range (wr ++ w1).length) n1 (is_r wr wc) (is_l wr wc) n2 n3 (by have := is_l (wr ++ w1) []; rw [List.append_nil] at this; exact this) (va_nd_of List.nodup_range) he hc hn hsz hst hW hcs hdg (fun H1 l1 w2 => kk H1 l1 ?_)
  rw [← hwr] at w2
  exact blk_back isC isR hlen hp (hR1.trans hR2.symm) hw1 w2
theorem b_rwiS {r : Int32} (C : CallFix p m c cc nL s args Ts own) (hM : Met l y wsc rm (va_Pc (.ref b :: As) (RWs g H.size wc sg)) (va_Qi (fun x (_ : Unit) => x = r) (fun _ => RWq g (va_A wc H.size) w1) (va_A wc H.size)) 0 0 (va_A wc H.size)) (cw : CallW R s args own Cn index y bytes maxL ret wsc rm 0 0 n) (hK : va_K g.1 vwCl (tyl g) s) (w : Wd g A s.heap bs.flatten H locs) (hSE : SE sg A s s.heap) (hA : ∀ q, s.heap.size ≤ q → A q) (isC isR : List Nat) (nb : Nat) (hnb : bs.length = nb) (hp : (isR ++ isC).Perm (List.range nb)) (hwc : wc = (isC.map (fun i => bs.getD i [])).flatten) (hlen : bs'.length = bs.length) (bR : List va_W) (hR1 : isR.map (fun i => bs.getD i []) = bR) (hR2 : isR.map (fun i => bs'.getD i []) = bR) (hw1 : w1 = (isC.map (fun i => bs'.getD i [])).flatten) (he : wc[0]? = some (b, .inr (ci, fs))) (hc : vwCl[ci]? = some (Cn, T, N)) (hn : As.length = n) (hsz : ls.size = nL) (hst : st0 = As.reverse ++ .ref b :: rest) (hW : (rest.map fun v => v.category).sum ≤ 8) (hcs : cells ≤ R.cells ∧ slots ≤ R.slots) (hdg : decode cc pc = .ok (.invokevirtual index, 3))
    (kk : ∀ (H1 : Heap) (locs1 : List Loc), Wd g A s.heap bs'.flatten H1 locs1 → W p l e R s m args below meth c H1 locs1 cells slots Q (F0 m (pc + 3) ls (.int r :: rest))) : W p l e R s m args below meth c H locs cells slots Q (F0 m pc ls st0) := by
  subst hnb
  have w0 := blk_cut w isC isR hp hwc
  generalize hwr : (isR.map (fun i => bs.getD i [])).flatten = wr at w0
  obtain ⟨n1, n2, n3⟩ := blk_lists wr wc
  refine r_rwiS (wr := wr) (ws' := wr ++ w1) C hM cw hK w0 hSE hA _ (List.range wr.length) (List.range (wr ++ w1).length) n1 (is_r wr wc) (is_l wr wc) n2 n3 (by have := is_l (wr ++ w1) []; rw [List.append_nil] at this; exact this) (va_nd_of List.nodup_range) he hc hn hsz hst hW hcs hdg (fun H1 l1 w2 => kk H1 l1 ?_)
  rw [← hwr] at w2
  exact blk_back isC isR hlen hp (hR1.trans hR2.symm) hw1 w2
end BK
