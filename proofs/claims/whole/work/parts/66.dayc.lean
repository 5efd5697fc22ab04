-- THE DAY of the class
abbrev DK : Type := Nat × (Nat → Nat) × (Nat → Nat) × (Nat → Nat)
def stp (T : Nat → Nat → Nat) (wi : Nat → Nat) (D : DK) (s : Nat) : DK := (flyW (T s) D.1 (wi (flyH (T s) D.1)), va_up D.2.1 s (flyL (T s) D.1 (wi (flyH (T s) D.1))), va_up D.2.2.1 s (flyH (T s) D.1), va_up D.2.2.2 s (flyF (T s) D.1).2)
def day0 (W : Nat) : DK := (W, fun _ => 0, fun _ => 0, fun _ => 0)
def dayL (T : Nat → Nat → Nat) (wi : Nat → Nat) (l : List Nat) (W : Nat) : DK := l.foldl (stp T wi) (day0 W)
theorem dayL_s (T : Nat → Nat → Nat) (wi : Nat → Nat) (l : List Nat) (W s : Nat) : dayL T wi (l ++ [s]) W = stp T wi (dayL T wi l W) s := by
  unfold dayL
  rw [List.foldl_append]
  rfl
/-- SAYINGS below i of an HOUR, behind those of the HOURS ahead -/
def ordU (N : Nat) (T : Nat → Nat → Nat) : Nat → List Nat
  | 0 => []
  | h + 1 => ordU N T h ++ (List.range N).filter (fun s => T s 4 == h)
def ordP (N : Nat) (T : Nat → Nat → Nat) (h i : Nat) : List Nat := ordU N T h ++ (List.range i).filter (fun s => T s 4 == h)
def ordL (N : Nat) (T : Nat → Nat → Nat) : List Nat := ordU N T 10
def dayK (K : KT) : DK := dayL (kT K) (kWi K) (ordL (kN K) (kT K)) (kW K)
theorem ordP_0 (N : Nat) (T : Nat → Nat → Nat) (h : Nat) : ordP N T h 0 = ordU N T h := by unfold ordP; simp
theorem ordP_N (N : Nat) (T : Nat → Nat → Nat) (h : Nat) : ordP N T h N = ordU N T (h + 1) := rfl
theorem ordP_y {N : Nat} {T : Nat → Nat → Nat} {h i : Nat} (e : T i 4 = h) : ordP N T h (i + 1) = ordP N T h i ++ [i] := by
  unfold ordP
  rw [List.range_succ, List.filter_append, List.append_assoc]
  congr 2
  simp [e]
theorem ordP_n {N : Nat} {T : Nat → Nat → Nat} {h i : Nat} (e : T i 4 ≠ h) : ordP N T h (i + 1) = ordP N T h i := by
  unfold ordP
  rw [List.range_succ, List.filter_append]
  simp [e]
theorem len_f (p : Nat → Bool) : ∀ n, ((List.range n).filter p).length = ct p n
  | 0 => rfl
  | n + 1 => by
    rw [List.range_succ, List.filter_append, List.length_append, len_f p n, ct]
    congr 1
    cases e : p n <;> simp [e]
theorem ct_mono (p : Nat → Bool) {m n : Nat} (h : m ≤ n) : ct p m ≤ ct p n := by
  obtain ⟨k, rfl⟩ : ∃ k, n = m + k := ⟨n - m, by omega⟩
  rw [ct_split]
  omega
theorem ct_hr (T : Nat → Nat → Nat) (h : Nat) : ∀ n, ct (fun s => decide (T s 4 < h)) n + ct (fun s => T s 4 == h) n = ct (fun s => decide (T s 4 < h + 1)) n
  | 0 => rfl
  | n + 1 => by
    have := ct_hr T h n
    simp only [ct]
    by_cases c : T n 4 < h
    · have c2 : T n 4 < h + 1 := by omega
      have c3 : ¬ T n 4 = h := by omega
      simp [c, c2, c3]
      omega
    · by_cases c3 : T n 4 = h
      · have c2 : T n 4 < h + 1 := by omega
        simp [c, c3]
        omega
      · have c2 : ¬ T n 4 < h + 1 := by omega
        simp [c, c2, c3]
        omega
theorem ordU_len (N : Nat) (T : Nat → Nat → Nat) : ∀ h, (ordU N T h).length = ct (fun s => decide (T s 4 < h)) N
  | 0 => by
    rw [ordU]
    have : ∀ n, ct (fun s => decide (T s 4 < 0)) n = 0 := fun n => by
      induction n with
      | zero => rfl
      | succ n ih => rw [ct, ih]; simp
    rw [this]
    rfl
  | h + 1 => by rw [ordU, List.length_append, ordU_len N T h, len_f, ct_hr]
theorem ordP_len (N : Nat) (T : Nat → Nat → Nat) (h i : Nat) : (ordP N T h i).length = ct (fun s => decide (T s 4 < h)) N + ct (fun s => T s 4 == h) i := by
  unfold ordP
  rw [List.length_append, ordU_len, len_f]
theorem ordP_room {N : Nat} {T : Nat → Nat → Nat} {h i : Nat} (hi : i < N) (e : T i 4 = h) : (ordP N T h i).length < N := by
  have h1 : (ordP N T h (i + 1)).length ≤ (ordP N T h N).length := by
    rw [ordP_len, ordP_len]
    have := ct_mono (fun s => T s 4 == h) (show i + 1 ≤ N by omega)
    omega
  rw [ordP_y e, List.length_append] at h1
  rw [ordP_N, ordU_len] at h1
  have := ct_le (fun s => decide (T s 4 < h + 1)) N
  simp at h1
  omega
theorem ct_all {p : Nat → Bool} : ∀ {n : Nat}, (∀ k, k < n → p k = true) → ct p n = n
  | 0, _ => rfl
  | n + 1, h => by rw [ct, ct_all (fun k hk => h k (by omega)), h n (by omega)]; rfl
theorem ordL_len {N : Nat} {T : Nat → Nat → Nat} (h : ∀ s, s < N → T s 4 ≤ 9) : (ordL N T).length = N := by
  unfold ordL
  rw [ordU_len]
  exact ct_all fun k hk => decide_eq_true (by have := h k hk; omega)
theorem ordU_mem {N : Nat} {T : Nat → Nat → Nat} {s : Nat} : ∀ {h : Nat}, s ∈ ordU N T h ↔ s < N ∧ T s 4 < h
  | 0 => by simp [ordU]
  | h + 1 => by
    rw [ordU, List.mem_append, ordU_mem]
    simp
    omega
theorem ordP_mem {N : Nat} {T : Nat → Nat → Nat} {s h i : Nat} (hi : i ≤ N) (hs : s ∈ ordP N T h i) : s < N := by
  unfold ordP at hs
  rw [List.mem_append, ordU_mem] at hs
  simp at hs
  omega
theorem ordL_mem {N : Nat} {T : Nat → Nat → Nat} (h : ∀ s, s < N → T s 4 ≤ 9) {s : Nat} : s ∈ ordL N T ↔ s < N := by
  unfold ordL
  rw [ordU_mem]
  refine ⟨fun q => q.1, fun q => ⟨q, ?_⟩⟩
  have := h s q
  omega
/-- a row that holds a list -/
def OR (l : List Nat) (o : AI) : Prop := ∀ j, j < l.length → o j = nI (l.getD j 0)
theorem OR_s {l : List Nat} {o : AI} {i : Nat} (h : OR l o) : OR (l ++ [i]) (upd o l.length (nI i)) := by
  intro j hj
  rw [List.length_append] at hj
  by_cases c : j = l.length
  · subst c
    rw [pk_us]
    simp
  · have hj2 : j < l.length := by simp at hj; omega
    rw [pk_un c, h j hj2]
    simp [List.getD, List.getElem?_append_left hj2]
theorem c_ord_in {c : CT} {N h : Nat} {T : Nat → Nat → Nat} (hN : N ≤ 5) (hh : h < 10) (hT : ∀ s, s < N → cTo c s 4 = nI (T s 4) ∧ T s 4 ≤ 9) (K : Int32 → Int32 → DT → Option DT) (d : DT) (hd : dSa d = nI N) : ∀ m i n o, i + m = N → m < n → OR (ordP N T h i) o → ∃ o', OR (ordU N T (h + 1)) o' ∧ fX1_begin_L44 c (nI h) K n (nI i) (nI (ordP N T h i).length) (dOr' d o) = K (nI N) (nI (ordU N T (h + 1)).length) (dOr' d o') := by
  have hd1 : ∀ o, dSa (dOr' d o) = nI N := fun _ => hd
  have hd2 : ∀ o, dOr (dOr' d o) = o := fun _ => rfl
  have hd3 : ∀ o o', dOr' (dOr' d o) o' = dOr' d o' := fun _ _ => rfl
  intro m
  induction m with
  | zero =>
    intro i n o hi hn ho
    obtain ⟨n, rfl⟩ : ∃ m, n = m + 1 := ⟨n - 1, by omega⟩
    obtain rfl : i = N := by omega
    refine ⟨o, ho, ?_⟩
    rw [fX1_begin_L44]
    simp (disch := omega) only [nm_q, bd1_some, bd2_some, bd3_some, bd4_some, bd5_some, bd6_some, bd7_some, bd8_some, bd9_some, bd10_some, bd11_some, bd1_ite, ↓reduceIte, gd_nI, gb_nI, gb_ite, li, liL, nI_add, nI_1, pk_sub, pk_mul, pk_div, nI_clamp, nI_eq, nI_leI, nI_ltI, nI_eqn, nI_neq, nI_nn, nI_len, nI_ltn, ngI_le, ngI_lt, nng, sm10, sm8, shr_n, shl_n, and_1, fa_or, leT, leF, ltT, ltF, eqT, eqF, hd1, hd2, hd3, ordP_N]
  | succ m ih =>
    intro i n o hi hn ho
    obtain ⟨n, rfl⟩ : ∃ m, n = m + 1 := ⟨n - 1, by omega⟩
    obtain ⟨e4, e9⟩ := hT i (by omega)
    rw [fX1_begin_L44]
    by_cases ce : T i 4 = h
    · have hr := ordP_room (N := N) (T := T) (by omega : i < N) ce
      obtain ⟨o', h1, h2⟩ := ih (i + 1) n (upd o (ordP N T h i).length (nI i)) (by omega) (by omega) (by rw [ordP_y ce]; exact OR_s ho)
      refine ⟨o', h1, ?_⟩
      rw [← h2, ordP_y ce]
      simp (disch := omega) only [nm_q, bd1_some, bd2_some, bd3_some, bd4_some, bd5_some, bd6_some, bd7_some, bd8_some, bd9_some, bd10_some, bd11_some, bd1_ite, ↓reduceIte, gd_nI, gb_nI, gb_ite, li, liL, nI_add, nI_1, pk_sub, pk_mul, pk_div, nI_clamp, nI_eq, nI_leI, nI_ltI, nI_eqn, nI_neq, nI_nn, nI_len, nI_ltn, ngI_le, ngI_lt, nng, sm10, sm8, shr_n, shl_n, and_1, fa_or, leT, leF, ltT, ltF, eqT, eqF, hd1, hd2, hd3, e4, List.length_append, List.length_singleton]
    · obtain ⟨o', h1, h2⟩ := ih (i + 1) n o (by omega) (by omega) (by rw [ordP_n ce]; exact ho)
      refine ⟨o', h1, ?_⟩
      rw [← h2, ordP_n ce]
      simp (disch := omega) only [nm_q, bd1_some, bd2_some, bd3_some, bd4_some, bd5_some, bd6_some, bd7_some, bd8_some, bd9_some, bd10_some, bd11_some, bd1_ite, ↓reduceIte, gd_nI, gb_nI, gb_ite, li, liL, nI_add, nI_1, pk_sub, pk_mul, pk_div, nI_clamp, nI_eq, nI_leI, nI_ltI, nI_eqn, nI_neq, nI_nn, nI_len, nI_ltn, ngI_le, ngI_lt, nng, sm10, sm8, shr_n, shl_n, and_1, fa_or, leT, leF, ltT, ltF, eqT, eqF, hd1, hd2, hd3, e4]
theorem c_ord_out {c : CT} {N : Nat} {T : Nat → Nat → Nat} (hN : N ≤ 5) (hT : ∀ s, s < N → cTo c s 4 = nI (T s 4) ∧ T s 4 ≤ 9) (K : Int32 → Int32 → DT → Option DT) (d : DT) (hd : dSa d = nI N) : ∀ m h n o, h + m = 10 → m < n → OR (ordU N T h) o → ∃ o', OR (ordL N T) o' ∧ fX1_begin_L35 c K n (nI h) (nI (ordU N T h).length) (dOr' d o) = K (nI 10) (nI (ordL N T).length) (dOr' d o') := by
  intro m
  induction m with
  | zero =>
    intro h n o hh hn ho
    obtain ⟨n, rfl⟩ : ∃ m, n = m + 1 := ⟨n - 1, by omega⟩
    obtain rfl : h = 10 := by omega
    refine ⟨o, ho, ?_⟩
    rw [fX1_begin_L35]
    simp (disch := omega) only [nm_q, bd1_some, bd2_some, bd3_some, bd4_some, bd5_some, bd6_some, bd7_some, bd8_some, bd9_some, bd10_some, bd11_some, bd1_ite, ↓reduceIte, gd_nI, gb_nI, gb_ite, li, liL, nI_add, nI_1, pk_sub, pk_mul, pk_div, nI_clamp, nI_eq, nI_leI, nI_ltI, nI_eqn, nI_neq, nI_nn, nI_len, nI_ltn, ngI_le, ngI_lt, nng, sm10, sm8, shr_n, shl_n, and_1, fa_or, leT, leF, ltT, ltF, eqT, eqF]
    rfl
  | succ m ih =>
    intro h n o hh hn ho
    obtain ⟨n, rfl⟩ : ∃ m, n = m + 1 := ⟨n - 1, by omega⟩
    rw [fX1_begin_L35]
    obtain ⟨o1, h1, h2⟩ := c_ord_in hN (show h < 10 by omega) hT (fun v9 v10 d_11 => nm (nI h + 1) fun x25 => fX1_begin_L35 c K n x25 v10 d_11) d hd N 0 4096 o (by omega) (by omega) (by rw [ordP_0]; exact ho)
    obtain ⟨o2, h3, h4⟩ := ih (h + 1) n o1 (by omega) (by omega) h1
    refine ⟨o2, h3, ?_⟩
    rw [← h4]
    rw [ordP_0] at h2
    simp (disch := omega) only [nm_q, bd1_some, bd2_some, bd3_some, bd4_some, bd5_some, bd6_some, bd7_some, bd8_some, bd9_some, bd10_some, bd11_some, bd1_ite, ↓reduceIte, gd_nI, gb_nI, gb_ite, li, liL, nI_add, nI_1, pk_sub, pk_mul, pk_div, nI_clamp, nI_eq, nI_leI, nI_ltI, nI_eqn, nI_neq, nI_nn, nI_len, nI_ltn, ngI_le, ngI_lt, nng, sm10, sm8, shr_n, shl_n, and_1, fa_or, leT, leF, ltT, ltF, eqT, eqF] at h2 ⊢
    exact h2
theorem c_begin {c : CT} {N : Nat} {T : Nat → Nat → Nat} (d : DT) (hN : N ≤ 5) (hSa : cSa c = nI N) (hT : ∀ s, s < N → cTo c s 4 = nI (T s 4) ∧ T s 4 ≤ 9) : ∃ d', fX1_begin d c = some d' ∧ dW d' = cW c ∧ dSa d' = nI N ∧ (∀ h, h < 10 → dWi d' h = cWi c h) ∧ OR (ordL N T) (dOr d') := by
  obtain ⟨F, hF⟩ : ∃ F, F = 4096 := ⟨_, rfl⟩
  obtain ⟨o', h1, h2⟩ := c_ord_out hN hT (fun v4 v5 d_6 => some d_6) (dPl d, dHo d, dSt d, cW c, va_cpy (cWi c) (dWi d) 0 0 10, dOr d, cSa c) hSa 10 0 F (dOr d) (by omega) (by omega) (fun j hj => absurd hj (by simp [ordU]))
  refine ⟨dOr' (dPl d, dHo d, dSt d, cW c, va_cpy (cWi c) (dWi d) 0 0 10, dOr d, cSa c) o', ?_, rfl, hSa, fun h hh => sb_cpy0 hh, h1⟩
  rw [fX1_begin, ← hF]
  simp only [nm]
  exact h2
/-- what THE DAY has brought so far, in the class's rows -/
def RDc (l : List Nat) (D : DK) (d : DT) : Prop := dW d = lN D.1 ∧ D.1 < 2 ^ 64 ∧ ∀ s, s ∈ l → dPl d s = nI (D.2.1 s) ∧ D.2.1 s < 64 ∧ dHo d s = nI (D.2.2.1 s) ∧ D.2.2.1 s ≤ 9 ∧ dSt d s = nI (D.2.2.2 s) ∧ D.2.2.2 s ≤ 10
theorem up_s {α : Type} (f : Nat → α) (k : Nat) (v : α) : va_up f k v k = v := if_pos rfl
theorem up_n {α : Type} (f : Nat → α) {k j : Nat} (v : α) (h : j ≠ k) : va_up f k v j = f j := if_neg h
theorem c_fly {l : List Nat} {D : DK} {d : DT} {c : CT} {T : Nat → Nat → Nat} {wi : Nat → Nat} {s : Nat} (h : RDc l D d) (hs : s < 5) (ht : okT (T s)) (hc : ∀ k, k < 5 → cTo c s k = nI (tv (T s) k)) (hw : dWi d (flyH (T s) D.1) = nI (wi (flyH (T s) D.1)) ∧ wi (flyH (T s) D.1) ≤ 4) : ∃ d1 d2, fX1_comeDown (nI s) d c = some d1 ∧ dOr d1 = dOr d ∧ fX1_land (nI s) d1 c = some d2 ∧ d2.2.2.2.2 = d.2.2.2.2 ∧ RDc (l ++ [s]) (stp T wi D s) d2 := by
  obtain ⟨h1, h2, h3⟩ := h
  have hb := flyF_b ht D.1
  have hh := flyH_b (T s) D.1
  have hL := flyL_b ht D.1 (wi (flyH (T s) D.1))
  have hW := flyW_b ht (wi (flyH (T s) D.1)) h2
  refine ⟨_, _, c_come h2 h1 hs ht hc, rfl, c_land (W := D.1) (p := (flyF (T s) D.1).1) (h := flyH (T s) D.1) (w := wi (flyH (T s) D.1)) (k := T s 0) h2 h1 hs ht.1 (hc 0 (by omega)) hb.1 pk_us (by omega) pk_us (by omega) hw.1, rfl, rfl, hW, ?_⟩
  intro q hq
  by_cases cq : q = s
  · subst cq
    refine ⟨?_, ?_, ?_, ?_, ?_, ?_⟩
    · show upd _ q _ q = _
      rw [pk_us]
      show _ = nI (va_up _ q _ q)
      rw [up_s]
      rfl
    · show va_up _ q _ q < 64
      rw [up_s]
      exact hL
    · show upd _ q _ q = nI (va_up _ q _ q)
      rw [pk_us, up_s]
    · show va_up _ q _ q ≤ 9
      rw [up_s]
      exact hh
    · show upd _ q _ q = nI (va_up _ q _ q)
      rw [pk_us, up_s]
    · show va_up _ q _ q ≤ 10
      rw [up_s]
      exact hb.2
  · have hq2 : q ∈ l := by simpa [cq] using hq
    obtain ⟨a1, a2, a3, a4, a5, a6⟩ := h3 q hq2
    refine ⟨?_, ?_, ?_, ?_, ?_, ?_⟩
    · show upd (upd _ s _) s _ q = nI (va_up _ s _ q)
      rw [pk_un cq, pk_un cq, up_n _ _ cq]
      exact a1
    · show va_up _ s _ q < 64
      rw [up_n _ _ cq]
      exact a2
    · show upd _ s _ q = nI (va_up _ s _ q)
      rw [pk_un cq, up_n _ _ cq]
      exact a3
    · show va_up _ s _ q ≤ 9
      rw [up_n _ _ cq]
      exact a4
    · show upd _ s _ q = nI (va_up _ s _ q)
      rw [pk_un cq, up_n _ _ cq]
      exact a5
    · show va_up _ s _ q ≤ 10
      rw [up_n _ _ cq]
      exact a6
theorem tk {l : List Nat} {i : Nat} (h : i < l.length) : l.take (i + 1) = l.take i ++ [l.getD i 0] := by
  rw [List.take_add_one, List.getElem?_eq_getElem h]
  simp [List.getD, h]
theorem gD_mem {l : List Nat} {i : Nat} (h : i < l.length) : l.getD i 0 ∈ l := by
  have : l.getD i 0 = l[i] := by simp [List.getD, h]
  rw [this]
  exact List.getElem_mem h
theorem c_pass_lp {c : CT} {N W : Nat} {T : Nat → Nat → Nat} {wi : Nat → Nat} {l : List Nat} (hl : l.length = N) (hN : N ≤ 5) (hm : ∀ s, s ∈ l → s < 5 ∧ okT (T s) ∧ ∀ k, k < 5 → cTo c s k = nI (tv (T s) k)) (hwi : ∀ h, h < 10 → wi h ≤ 4) (K : Int32 → DT → Option DT) : ∀ m i n d, i + m = N → m < n → OR l (dOr d) → dSa d = nI N → (∀ h, h < 10 → dWi d h = nI (wi h)) → RDc (l.take i) (dayL T wi (l.take i) W) d → ∃ d', RDc l (dayL T wi l W) d' ∧ dSa d' = nI N ∧ fX1_pass_L7 c K n (nI i) d = K (nI N) d' := by
  intro m
  induction m with
  | zero =>
    intro i n d hi hn hO hS hw hR
    obtain ⟨n, rfl⟩ : ∃ m, n = m + 1 := ⟨n - 1, by omega⟩
    obtain rfl : i = N := by omega
    rw [List.take_of_length_le (by omega)] at hR
    refine ⟨d, hR, hS, ?_⟩
    rw [fX1_pass_L7]
    simp (disch := omega) only [nm_q, bd1_some, bd2_some, bd3_some, bd4_some, bd5_some, bd6_some, bd7_some, bd8_some, bd9_some, bd10_some, bd11_some, bd1_ite, ↓reduceIte, gd_nI, gb_nI, gb_ite, li, liL, nI_add, nI_1, pk_sub, pk_mul, pk_div, nI_clamp, nI_eq, nI_leI, nI_ltI, nI_eqn, nI_neq, nI_nn, nI_len, nI_ltn, ngI_le, ngI_lt, nng, sm10, sm8, shr_n, shl_n, and_1, fa_or, leT, leF, ltT, ltF, eqT, eqF, hS]
  | succ m ih =>
    intro i n d hi hn hO hS hw hR
    obtain ⟨n, rfl⟩ : ∃ m, n = m + 1 := ⟨n - 1, by omega⟩
    have hi2 : i < l.length := by omega
    obtain ⟨b1, b2, b3⟩ := hm _ (gD_mem hi2)
    have hh := flyH_b (T (l.getD i 0)) (dayL T wi (l.take i) W).1
    obtain ⟨d1, d2, f1, f2, f3, f4, f5⟩ := c_fly (wi := wi) hR b1 b2 b3 ⟨hw _ (by omega), hwi _ (by omega)⟩
    rw [← dayL_s, ← tk hi2] at f5
    have e1 : dWi d2 = dWi d := congrArg (fun x => x.1) f4
    have e2 : dOr d2 = dOr d := congrArg (fun x => x.2.1) f4
    have e3 : dSa d2 = dSa d := congrArg (fun x => x.2.2) f4
    obtain ⟨d', g1, g2, g3⟩ := ih (i + 1) n d2 (by omega) (by omega) (by rw [e2]; exact hO) (by rw [e3]; exact hS) (by rw [e1]; exact hw) f5
    refine ⟨d', g1, g2, ?_⟩
    rw [← g3, fX1_pass_L7]
    have o1 : dOr d i = nI (l.getD i 0) := hO i hi2
    have o2 : dOr d1 i = nI (l.getD i 0) := by rw [f2]; exact o1
    simp (disch := omega) only [nm_q, bd1_some, bd2_some, bd3_some, bd4_some, bd5_some, bd6_some, bd7_some, bd8_some, bd9_some, bd10_some, bd11_some, bd1_ite, ↓reduceIte, gd_nI, gb_nI, gb_ite, li, liL, nI_add, nI_1, pk_sub, pk_mul, pk_div, nI_clamp, nI_eq, nI_leI, nI_ltI, nI_eqn, nI_neq, nI_nn, nI_len, nI_ltn, ngI_le, ngI_lt, nng, sm10, sm8, shr_n, shl_n, and_1, fa_or, leT, leF, ltT, ltF, eqT, eqF, hS, o1, o2, f1, f3]
