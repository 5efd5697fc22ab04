-- winds by odds: the class
theorem c_flyO {l : List Nat} {D : DK} {d : DT} {c : CT} {T : Nat → Nat → Nat} {s w : Nat} (ω : AI) (h : RDc l D d) (hs : s < 5) (ht : okT (T s)) (hc : ∀ k, k < 5 → cTo c s k = nI (tv (T s) k)) (hw : ω (flyH (T s) D.1) = nI w) (hw4 : w ≤ 4) : ∃ d2, fX1_land (nI s) (upd (dPl d) s (nI (flyF (T s) D.1).1), upd (dHo d) s (nI (flyH (T s) D.1)), upd (dSt d) s (nI (flyF (T s) D.1).2), d.2.2.2.1, ω, d.2.2.2.2.2) c = some d2 ∧ dWi d2 = ω ∧ dOr d2 = dOr d ∧ dSa d2 = dSa d ∧ RDc (l ++ [s]) (stpW T D s w) d2 := by
  obtain ⟨h1, h2, h3⟩ := h
  have hb := flyF_b ht D.1
  have hh := flyH_b (T s) D.1
  have hL := flyL_b ht D.1 w
  have hW := flyW_b ht w h2
  refine ⟨_, c_land (W := D.1) (p := (flyF (T s) D.1).1) (h := flyH (T s) D.1) (w := w) (k := T s 0) h2 h1 hs ht.1 (hc 0 (by omega)) hb.1 pk_us (by omega) pk_us (by omega) hw, rfl, rfl, rfl, rfl, hW, ?_⟩
  intro q hq
  by_cases cq : q = s
  · subst cq
    refine ⟨?_, ?_, ?_, ?_, ?_, ?_⟩
    · show upd _ q _ q = nI (va_up _ q _ q)
      rw [pk_us, up_s]
      rfl
    · show va_up _ q _ q < 64
      rw [up_s]
      exact hL
    · show upd _ q _ q = nI (va_up _ q _ q)
      rw [pk_us, up_s]
    · show va_up _ q _ q ≤ 9
      rw [up_s]
      exact hh
    · show upd _ q _ q = nI (va_up _ q _ q)
      rw [pk_us, up_s]
    · show va_up _ q _ q ≤ 10
      rw [up_s]
      exact hb.2
  · have hq2 : q ∈ l := by simpa [cq] using hq
    obtain ⟨a1, a2, a3, a4, a5, a6⟩ := h3 q hq2
    refine ⟨?_, ?_, ?_, ?_, ?_, ?_⟩
    · show upd (upd _ s _) s _ q = nI (va_up _ s _ q)
      rw [pk_un cq, pk_un cq, up_n _ _ cq]
      exact a1
    · show va_up _ s _ q < 64
      rw [up_n _ _ cq]
      exact a2
    · show upd _ s _ q = nI (va_up _ s _ q)
      rw [pk_un cq, up_n _ _ cq]
      exact a3
    · show va_up _ s _ q ≤ 9
      rw [up_n _ _ cq]
      exact a4
    · show upd _ s _ q = nI (va_up _ s _ q)
      rw [pk_un cq, up_n _ _ cq]
      exact a5
    · show va_up _ s _ q ≤ 10
      rw [up_n _ _ cq]
      exact a6
theorem wSo_le {K : KT} (hwi : ∀ i, i < 10 → kWi K i ≤ 4) (σ : Nat → Option Bool) {h : Nat} (hh : h < 10) : wSo K σ h ≤ 4 := by
  unfold wSo
  split
  · omega
  · exact hwi h hh
/-- what holds ahead of the next saying -/
def oI (K : KT) (N : Nat) (l0 l : List Nat) (t : OS) (S : Nat) (d : DT) : Prop := S < 1024 ∧ (∀ h, h < 10 → S.testBit h = (t.2.1 h).isSome) ∧ t.1 ≤ 100000 ∧ OR l0 (dOr d) ∧ dSa d = nI N ∧ (∀ h, h < 10 → dWi d h = nI (wSo K t.2.1 h)) ∧ RDc l t.2.2 d
theorem c_ostep {K : KT} {c : CT} {N v m i : Nat} {l0 l : List Nat} {t : OS} {S : Nat} {d : DT} (C : Int32 → Int32 → Int64 → DT → Option (Int64 × DT)) (n : Nat) (hN : N ≤ 5) (hi : i < N) (hl0 : i < l0.length) (hv : v ≤ 10) (hm : m < 32) (hwi : ∀ i, i < 10 → kWi K i ≤ 4) (hcw : ∀ h, h < 10 → cWi c h = nI (kWi K h)) (hs : l0.getD i 0 < 5) (ht : okT (kT K (l0.getD i 0))) (hc : ∀ k, k < 5 → cTo c (l0.getD i 0) k = nI (tv (kT K (l0.getD i 0)) k)) (h : oI K N l0 l t S d) : ∃ S' d', oI K N l0 (l ++ [l0.getD i 0]) (ost K v (fun s => m.testBit s) t (l0.getD i 0)) S' d' ∧ fX1_passByOdds_L16 c (nI v) (nI m) C (n + 1) (nI i) (nI S) (lN t.1) d = fX1_passByOdds_L16 c (nI v) (nI m) C n (nI (i + 1)) (nI S') (lN (ost K v (fun s => m.testBit s) t (l0.getD i 0)).1) d' := by
  obtain ⟨i1, i2, i3, i4, i5, i6, i7⟩ := h
  have o1 : dOr d i = nI (l0.getD i 0) := i4 i hl0
  generalize l0.getD i 0 = s at *
  have hh := flyH_b (kT K s) t.2.2.1
  have ec := c_come i7.2.1 i7.1 hs ht hc
  have hkw := hwi (flyH (kT K s) t.2.2.1) (by omega)
  have ew := hcw (flyH (kT K s) t.2.2.1) (by omega)
  have tS := i2 (flyH (kT K s) t.2.2.1) (by omega)
  have o10 : t.1 / 10 ≤ 10000 := by omega
  rw [fX1_passByOdds_L16]
  by_cases ca : kWi K (flyH (kT K s) t.2.2.1) = 4 ∨ (t.2.1 (flyH (kT K s) t.2.2.1)).isSome
  · have eo : ost K v (fun s => m.testBit s) t s = (if m.testBit s then 0 else t.1, t.2.1, stpW (kT K) t.2.2 s (wSo K t.2.1 (flyH (kT K s) t.2.2.1))) := by unfold ost; rw [if_pos ca]
    obtain ⟨d2, f1, f2, f3, f4, f5⟩ := c_flyO (c := c) (dWi d) i7 hs ht hc (i6 (flyH (kT K s) t.2.2.1) (by omega)) (wSo_le hwi t.2.1 (by omega))
    rw [eo]
    refine ⟨S, d2, ⟨i1, i2, ?_, by rw [f3]; exact i4, by rw [f4]; exact i5, fun h hh => by rw [f2]; exact i6 h hh, f5⟩, ?_⟩
    · show (if m.testBit s then 0 else t.1) ≤ 100000
      split <;> omega
    have f1' : fX1_land (nI s) (upd (dPl d) s (nI (flyF (kT K s) t.2.2.1).1), upd (dHo d) s (nI (flyH (kT K s) t.2.2.1)), upd (dSt d) s (nI (flyF (kT K s) t.2.2.1).2), d.2.2.2) c = some d2 := f1
    by_cases c4 : kWi K (flyH (kT K s) t.2.2.1) = 4
    · cases eb : m.testBit s with
      | true =>
        have z := (tb1 m s).mpr eb
        simp (disch := omega) only [nm_q, bd1_some, bd2_some, bd3_some, bd4_some, bd5_some, bd6_some, bd7_some, bd8_some, bd9_some, bd10_some, bd11_some, bd1_ite, ↓reduceIte, gd_nI, gb_nI, gb_ite, li, liL, nI_add, nI_1, pk_sub, pk_mul, pk_div, nI_clamp, nI_eq, nI_leI, nI_ltI, nI_eqn, nI_neq, nI_nn, nI_len, nI_ltn, ngI_le, ngI_lt, nng, sm10, sm8, shr_n, shl_n, and_1, fa_or, leT, leF, ltT, ltF, eqT, eqF, i5, o1, z, ec, dHo, pk_us, ew, f1', tt_i]
      | false =>
        have z := (tb0 m s).mpr eb
        simp (disch := omega) only [nm_q, bd1_some, bd2_some, bd3_some, bd4_some, bd5_some, bd6_some, bd7_some, bd8_some, bd9_some, bd10_some, bd11_some, bd1_ite, ↓reduceIte, gd_nI, gb_nI, gb_ite, li, liL, nI_add, nI_1, pk_sub, pk_mul, pk_div, nI_clamp, nI_eq, nI_leI, nI_ltI, nI_eqn, nI_neq, nI_nn, nI_len, nI_ltn, ngI_le, ngI_lt, nng, sm10, sm8, shr_n, shl_n, and_1, fa_or, leT, leF, ltT, ltF, eqT, eqF, i5, o1, z, ec, dHo, pk_us, ew, f1', ff_i]
    · have tS2 : S.testBit (flyH (kT K s) t.2.2.1) = true := by rw [tS]; exact ca.resolve_left c4
      have zS := (tb1 S (flyH (kT K s) t.2.2.1)).mpr tS2
      cases eb : m.testBit s with
      | true =>
        have z := (tb1 m s).mpr eb
        simp (disch := omega) only [nm_q, bd1_some, bd2_some, bd3_some, bd4_some, bd5_some, bd6_some, bd7_some, bd8_some, bd9_some, bd10_some, bd11_some, bd1_ite, ↓reduceIte, gd_nI, gb_nI, gb_ite, li, liL, nI_add, nI_1, pk_sub, pk_mul, pk_div, nI_clamp, nI_eq, nI_leI, nI_ltI, nI_eqn, nI_neq, nI_nn, nI_len, nI_ltn, ngI_le, ngI_lt, nng, sm10, sm8, shr_n, shl_n, and_1, fa_or, leT, leF, ltT, ltF, eqT, eqF, i5, o1, z, zS, ec, dHo, pk_us, ew, f1', tt_i]
      | false =>
        have z := (tb0 m s).mpr eb
        simp (disch := omega) only [nm_q, bd1_some, bd2_some, bd3_some, bd4_some, bd5_some, bd6_some, bd7_some, bd8_some, bd9_some, bd10_some, bd11_some, bd1_ite, ↓reduceIte, gd_nI, gb_nI, gb_ite, li, liL, nI_add, nI_1, pk_sub, pk_mul, pk_div, nI_clamp, nI_eq, nI_leI, nI_ltI, nI_eqn, nI_neq, nI_nn, nI_len, nI_ltn, ngI_le, ngI_lt, nng, sm10, sm8, shr_n, shl_n, and_1, fa_or, leT, leF, ltT, ltF, eqT, eqF, i5, o1, z, zS, ec, dHo, pk_us, ew, f1', ff_i]
  · have c4 : ¬ kWi K (flyH (kT K s) t.2.2.1) = 4 := fun e => ca (Or.inl e)
    have cn : ¬ (t.2.1 (flyH (kT K s) t.2.2.1)).isSome = true := fun e => ca (Or.inr e)
    have eo : ost K v (fun s => m.testBit s) t s = (t.1 / 10 * (if m.testBit s then v else 10 - v), va_up t.2.1 (flyH (kT K s) t.2.2.1) (some (m.testBit s)), stpW (kT K) t.2.2 s (if m.testBit s then 4 else kWi K (flyH (kT K s) t.2.2.1))) := by unfold ost; rw [if_neg ca]
    have tS2 : S.testBit (flyH (kT K s) t.2.2.1) = false := by rw [tS]; simpa using cn
    have zS := (tb0 S (flyH (kT K s) t.2.2.1)).mpr tS2
    have hp : 2 ^ flyH (kT K s) t.2.2.1 < 1024 := Nat.lt_of_lt_of_le (Nat.pow_lt_pow_right (by omega) (show flyH (kT K s) t.2.2.1 < 10 by omega)) (Nat.le_refl _)
    obtain ⟨d2, f1, f2, f3, f4, f5⟩ := c_flyO (c := c) (upd (dWi d) (flyH (kT K s) t.2.2.1) (nI (if m.testBit s then 4 else kWi K (flyH (kT K s) t.2.2.1)))) i7 hs ht hc pk_us (by split <;> omega)
    rw [eo]
    refine ⟨S ||| 2 ^ flyH (kT K s) t.2.2.1, d2, ⟨Nat.or_lt_two_pow (n := 10) i1 hp, fun h hh => ?_, ?_, by rw [f3]; exact i4, by rw [f4]; exact i5, fun h hh => ?_, f5⟩, ?_⟩
    · show _ = (va_up t.2.1 (flyH (kT K s) t.2.2.1) (some (m.testBit s)) h).isSome
      rw [fb_bit_set]
      by_cases ce : h = flyH (kT K s) t.2.2.1
      · rw [ce, up_s]; simp
      · rw [up_n _ _ ce, i2 h hh]; simp [ce]
    · show t.1 / 10 * (if m.testBit s then v else 10 - v) ≤ 100000
      have h2 : (if m.testBit s then v else 10 - v) ≤ 10 := by split <;> omega
      have := Nat.mul_le_mul o10 h2
      omega
    · show dWi d2 h = nI (wSo K (va_up t.2.1 (flyH (kT K s) t.2.2.1) (some (m.testBit s))) h)
      rw [f2]
      unfold wSo
      by_cases ce : h = flyH (kT K s) t.2.2.1
      · rw [ce, up_s, pk_us]
        cases m.testBit s <;> simp
      · rw [up_n _ _ ce, pk_un ce]
        exact i6 h hh
    cases eb : m.testBit s with
    | true =>
      rw [eb, tt_i] at f1
      have z := (tb1 m s).mpr eb
      simp (disch := omega) only [nm_q, bd1_some, bd2_some, bd3_some, bd4_some, bd5_some, bd6_some, bd7_some, bd8_some, bd9_some, bd10_some, bd11_some, bd1_ite, ↓reduceIte, gd_nI, gb_nI, gb_ite, li, liL, nI_add, nI_1, pk_sub, pk_mul, pk_div, nI_clamp, nI_eq, nI_leI, nI_ltI, nI_eqn, nI_neq, nI_nn, nI_len, nI_ltn, ngI_le, ngI_lt, nng, sm10, sm8, shr_n, shl_n, and_1, fa_or, leT, leF, ltT, ltF, eqT, eqF, i5, o1, z, zS, ec, dHo, pk_us, ew, dWi', dWi, f1, tt_i, shl_1, pk_lDiv, nI_l, lN_mul, Nat.one_mul]
    | false =>
      rw [eb, ff_i] at f1
      have z := (tb0 m s).mpr eb
      simp (disch := omega) only [nm_q, bd1_some, bd2_some, bd3_some, bd4_some, bd5_some, bd6_some, bd7_some, bd8_some, bd9_some, bd10_some, bd11_some, bd1_ite, ↓reduceIte, gd_nI, gb_nI, gb_ite, li, liL, nI_add, nI_1, pk_sub, pk_mul, pk_div, nI_clamp, nI_eq, nI_leI, nI_ltI, nI_eqn, nI_neq, nI_nn, nI_len, nI_ltn, ngI_le, ngI_lt, nng, sm10, sm8, shr_n, shl_n, and_1, fa_or, leT, leF, ltT, ltF, eqT, eqF, i5, o1, z, zS, ec, dHo, pk_us, ew, dWi', dWi, f1, ff_i, shl_1, pk_lDiv, nI_l, lN_mul, Nat.one_mul]
def ot0 (K : KT) : OS := (100000, fun _ => none, day0 (kW K))
/-- THE DAY of the class where the bits of m say which winds fail -/
def otm (K : KT) (v m : Nat) : OS := (ordL (kN K) (kT K)).foldl (ost K v (fun s => m.testBit s)) (ot0 K)
theorem c_odds {K : KT} {c : CT} {v m : Nat} (d : DT) (hK : WFk K) (hc : RCc K c) (hv : v ≤ 10) (hm : m < 32) : ∃ d', fX1_passByOdds (nI v) (nI m) d c = some (lN (otm K v m).1, d') ∧ (otm K v m).1 ≤ 100000 ∧ dSa d' = nI (kN K) ∧ ∀ s, s < kN K → dPl d' s = nI ((otm K v m).2.2.2.1 s) ∧ (otm K v m).2.2.2.1 s < 64 := by
  obtain ⟨h1, h2, h3, h4, h5⟩ := hc
  have hN := WF_N hK
  obtain ⟨d0, b1, b2, b3, b4, b5⟩ := c_begin (T := kT K) d hN h3 (fun s hs => ⟨h4 s hs 4 (by omega), WF_9 hK s hs⟩)
  obtain ⟨F, hF⟩ : ∃ F, F = 4096 := ⟨_, rfl⟩
  have hlen := ordL_len (WF_9 hK)
  rw [fX1_passByOdds, b1, bd1_some, ← hF]
  have tkf : ∀ i, i < kN K → ((ordL (kN K) (kT K)).take (i + 1)).foldl (ost K v (fun s => m.testBit s)) (ot0 K) = ost K v (fun s => m.testBit s) (((ordL (kN K) (kT K)).take i).foldl (ost K v (fun s => m.testBit s)) (ot0 K)) ((ordL (kN K) (kT K)).getD i 0) := fun i hi => by
    rw [tk (by omega), List.foldl_append]
    rfl
  refine solo (fun n (x : Int32 × Int32 × Int64 × DT) => fX1_passByOdds_L16 c (nI v) (nI m) (fun v3 v4 v5 d_6 => some (v5, d_6)) n x.1 x.2.1 x.2.2.1 x.2.2.2) (fun i x => x.1 = nI i ∧ ∃ S, x.2.1 = nI S ∧ x.2.2.1 = lN (((ordL (kN K) (kT K)).take i).foldl (ost K v (fun s => m.testBit s)) (ot0 K)).1 ∧ oI K (kN K) (ordL (kN K) (kT K)) ((ordL (kN K) (kT K)).take i) (((ordL (kN K) (kT K)).take i).foldl (ost K v (fun s => m.testBit s)) (ot0 K)) S x.2.2.2) (fun x => ∃ d', x = some (lN (otm K v m).1, d') ∧ (otm K v m).1 ≤ 100000 ∧ dSa d' = nI (kN K) ∧ ∀ s, s < kN K → dPl d' s = nI ((otm K v m).2.2.2.1 s) ∧ (otm K v m).2.2.2.1 s < 64) (kN K) ?_ ?_ (kN K) 0 F (0, 0, 100000, d0) (by omega) (by omega) ?_
  · rintro i ⟨x1, x2, x3, d⟩ n hi ⟨e1, S, e2, e3, e4⟩ ih
    simp only at e1 e2 e3 e4 ⊢
    subst e1 e2 e3
    have hi2 : i < (ordL (kN K) (kT K)).length := by omega
    have hs2 := (ordL_mem (WF_9 hK)).mp (gD_mem hi2)
    obtain ⟨S', d', g1, g2⟩ := c_ostep (v := v) (m := m) (c := c) (fun v3 v4 v5 d_6 => some (v5, d_6)) n hN hi hi2 hv hm (fun i hi => WF_wi hK hi) h2 (by omega) (WF_T hK hs2) (h4 _ hs2) e4
    rw [g2]
    rw [← tk hi2, ← tkf i hi] at g1
    rw [← tkf i hi]
    exact ih (nI (i + 1), nI S', _, d') ⟨rfl, S', rfl, rfl, g1⟩
  · rintro ⟨x1, x2, x3, d⟩ n ⟨e1, S, e2, e3, e4⟩
    simp only at e1 e2 e3 e4 ⊢
    subst e1 e2 e3
    rw [List.take_of_length_le (by omega)] at e4 ⊢
    obtain ⟨i1, i2, i3, i4, i5, i6, i7⟩ := e4
    rw [fX1_passByOdds_L16]
    simp (disch := omega) only [nm_q, bd1_some, bd2_some, bd3_some, bd4_some, bd5_some, bd6_some, bd7_some, bd8_some, bd9_some, bd10_some, bd11_some, bd1_ite, ↓reduceIte, gd_nI, gb_nI, gb_ite, li, liL, nI_add, nI_1, pk_sub, pk_mul, pk_div, nI_clamp, nI_eq, nI_leI, nI_ltI, nI_eqn, nI_neq, nI_nn, nI_len, nI_ltn, ngI_le, ngI_lt, nng, sm10, sm8, shr_n, shl_n, and_1, fa_or, leT, leF, ltT, ltF, eqT, eqF, i5]
    refine ⟨d, rfl, i3, i5, fun s hs => ?_⟩
    obtain ⟨a1, a2, _⟩ := i7.2.2 s ((ordL_mem (WF_9 hK)).mpr hs)
    exact ⟨a1, a2⟩
  · refine ⟨rfl, 0, rfl, rfl, ⟨by omega, fun h hh => by simp [ot0], Nat.le_refl _, b5, b3, fun h hh => ?_, ?_⟩⟩
    · show dWi d0 h = nI (wSo K (fun _ => none) h)
      rw [b4 h hh, h2 h hh]
      rfl
    · refine ⟨?_, WF_W hK, fun s hs => by simp at hs⟩
      show dW d0 = lN (kW K)
      rw [b2]; exact (lN_of h1).1
theorem c_heardP {K : KT} {c : CT} {d : DT} {P : Nat → Nat} (h3 : dSa d = nI (kN K)) (h4 : ∀ s, s < kN K → dPl d s = nI (P s) ∧ P s < 64) (hc : RCc K c) (hN : kN K ≤ 5) (hH : kH K ≤ 4) (hp : ∀ h, h < kH K → kHp K h < 64) : fX1_heard d c = some (nI (ct (fun s => decide (0 < hIn K (P s))) (kN K))) := by
  obtain ⟨F, hF⟩ : ∃ F, F = 4096 := ⟨_, rfl⟩
  rw [fX1_heard, ← hF]
  refine solo (fun n (t : Int32 × Int32) => fX1_heard_L4 d c (fun v1 v2 => some v2) n t.1 t.2) (fun i t => t = (nI i, nI (ct (fun s => decide (0 < hIn K (P s))) i))) (fun x => x = some (nI (ct (fun s => decide (0 < hIn K (P s))) (kN K)))) (kN K) ?_ ?_ (kN K) 0 F (nI 0, nI 0) (by omega) (by omega) rfl
  · rintro i t n hi rfl ih
    have := ih _ rfl
    rw [ct] at this
    obtain ⟨a1, a2⟩ := h4 i hi
    have a3 := hIn_le (K := K) (P i)
    show fX1_heard_L4 d c _ (n + 1) (nI i) (nI (ct (fun s => decide (0 < hIn K (P s))) i)) = _
    rw [fX1_heard_L4]
    by_cases e : 0 < hIn K (P i)
    · rw [if_pos (by simpa using e)] at this
      simp (disch := omega) only [nm_q, bd1_some, bd2_some, bd3_some, bd4_some, bd5_some, bd6_some, bd7_some, bd8_some, bd9_some, bd10_some, bd11_some, bd1_ite, ↓reduceIte, gd_nI, gb_nI, gb_ite, li, liL, nI_add, nI_1, pk_sub, pk_mul, pk_div, nI_clamp, nI_eq, nI_leI, nI_ltI, nI_eqn, nI_neq, nI_nn, nI_len, nI_ltn, ngI_le, ngI_lt, nng, sm10, sm8, shr_n, shl_n, and_1, fa_or, leT, leF, ltT, ltF, eqT, eqF, h3, a1, c_hIn hc hH hp]
      exact this
    · rw [if_neg (by simpa using e), Nat.add_zero] at this
      simp (disch := omega) only [nm_q, bd1_some, bd2_some, bd3_some, bd4_some, bd5_some, bd6_some, bd7_some, bd8_some, bd9_some, bd10_some, bd11_some, bd1_ite, ↓reduceIte, gd_nI, gb_nI, gb_ite, li, liL, nI_add, nI_1, pk_sub, pk_mul, pk_div, nI_clamp, nI_eq, nI_leI, nI_ltI, nI_eqn, nI_neq, nI_nn, nI_len, nI_ltn, ngI_le, ngI_lt, nng, sm10, sm8, shr_n, shl_n, and_1, fa_or, leT, leF, ltT, ltF, eqT, eqF, h3, a1, c_hIn hc hH hp]
      exact this
  · rintro t n rfl
    show fX1_heard_L4 d c _ (n + 1) (nI (kN K)) (nI (ct (fun s => decide (0 < hIn K (P s))) (kN K))) = _
    rw [fX1_heard_L4]
    simp (disch := omega) only [nm_q, bd1_some, bd2_some, bd3_some, bd4_some, bd5_some, bd6_some, bd7_some, bd8_some, bd9_some, bd10_some, bd11_some, bd1_ite, ↓reduceIte, gd_nI, gb_nI, gb_ite, li, liL, nI_add, nI_1, pk_sub, pk_mul, pk_div, nI_clamp, nI_eq, nI_leI, nI_ltI, nI_eqn, nI_neq, nI_nn, nI_len, nI_ltn, ngI_le, ngI_lt, nng, sm10, sm8, shr_n, shl_n, and_1, fa_or, leT, leF, ltT, ltF, eqT, eqF, h3]
def fLuck (s q : Nat) (D : DK) : Nat := if D.2.1 s = q then 1 else 0
def fMean (K : KT) (D : DK) : Nat := ct (fun s => decide (0 < hIn K (D.2.1 s))) (kN K)
/-- the class's sum -/
def cSum (K : KT) (v : Nat) (f : DK → Nat) (n : Nat) : Nat := fb_sm (fun m => (otm K v m).1 * f (otm K v m).2.2) n
theorem c_luckL {K : KT} {nw : CT} {v s q : Nat} (hK : WFk K) (hc : RCc K nw) (hv : v ≤ 10) (hs : s < kN K) (hq : q < 64) (P : Option (Int64 × DT) → Prop) (C : Int32 → Int64 → DT → Option (Int64 × DT)) (hE : ∀ a d, P (C a (lN (cSum K v (fLuck s q) (2 ^ kN K))) d)) (F : Nat) (hF : 32 < F) (da : DT) : P (fX5_luck_L52 nw (nI v) (nI s) (nI q) C F 0 0 da) := by
  have hN := WF_N hK
  have h32 : 2 ^ kN K ≤ 32 := Nat.pow_le_pow_right (n := 2) (j := 5) (by omega) hN
  have eSa := hc.2.2.1
  refine solo (fun n (x : Int32 × Int64 × DT) => fX5_luck_L52 nw (nI v) (nI s) (nI q) C n x.1 x.2.1 x.2.2) (fun i x => x.1 = nI i ∧ x.2.1 = lN (cSum K v (fLuck s q) i)) P (2 ^ kN K) ?_ ?_ (2 ^ kN K) 0 F (0, 0, da) (by omega) (by omega) ⟨rfl, rfl⟩
  · rintro i ⟨x1, x2, d⟩ n hi ⟨e1, e2⟩ ih
    simp only at e1 e2 ⊢
    subst e1 e2
    obtain ⟨d', g1, g2, g3, g4⟩ := c_odds d hK hc hv (show i < 32 by omega)
    obtain ⟨a1, a2⟩ := g4 s hs
    have next := ih (nI (i + 1), lN (cSum K v (fLuck s q) (i + 1)), d') ⟨rfl, rfl⟩
    rw [cSum, fb_sm] at next
    rw [fX5_luck_L52]
    by_cases c : (otm K v i).2.2.2.1 s = q
    · rw [show fLuck s q (otm K v i).2.2 = 1 from if_pos c, Nat.mul_one] at next
      simp (disch := omega) only [nm_q, bd1_some, bd2_some, bd3_some, bd4_some, bd5_some, bd6_some, bd7_some, bd8_some, bd9_some, bd10_some, bd11_some, bd1_ite, ↓reduceIte, gd_nI, gb_nI, gb_ite, li, liL, nI_add, nI_1, pk_sub, pk_mul, pk_div, nI_clamp, nI_eq, nI_leI, nI_ltI, nI_eqn, nI_neq, nI_nn, nI_len, nI_ltn, ngI_le, ngI_lt, nng, sm10, sm8, shr_n, shl_n, and_1, fa_or, leT, leF, ltT, ltF, eqT, eqF, eSa, shl_1, g1, a1, lN_add]
      exact next
    · rw [show fLuck s q (otm K v i).2.2 = 0 from if_neg c, Nat.mul_zero, Nat.add_zero] at next
      simp (disch := omega) only [nm_q, bd1_some, bd2_some, bd3_some, bd4_some, bd5_some, bd6_some, bd7_some, bd8_some, bd9_some, bd10_some, bd11_some, bd1_ite, ↓reduceIte, gd_nI, gb_nI, gb_ite, li, liL, nI_add, nI_1, pk_sub, pk_mul, pk_div, nI_clamp, nI_eq, nI_leI, nI_ltI, nI_eqn, nI_neq, nI_nn, nI_len, nI_ltn, ngI_le, ngI_lt, nng, sm10, sm8, shr_n, shl_n, and_1, fa_or, leT, leF, ltT, ltF, eqT, eqF, eSa, shl_1, g1, a1, lN_add]
      exact next
  · rintro ⟨x1, x2, d⟩ n ⟨e1, e2⟩
    simp only at e1 e2 ⊢
    subst e1 e2
    rw [fX5_luck_L52]
    simp (disch := omega) only [nm_q, bd1_some, bd2_some, bd3_some, bd4_some, bd5_some, bd6_some, bd7_some, bd8_some, bd9_some, bd10_some, bd11_some, bd1_ite, ↓reduceIte, gd_nI, gb_nI, gb_ite, li, liL, nI_add, nI_1, pk_sub, pk_mul, pk_div, nI_clamp, nI_eq, nI_leI, nI_ltI, nI_eqn, nI_neq, nI_nn, nI_len, nI_ltn, ngI_le, ngI_lt, nng, sm10, sm8, shr_n, shl_n, and_1, fa_or, leT, leF, ltT, ltF, eqT, eqF, eSa, shl_1]
    exact hE _ _
theorem c_meanL {K : KT} {nw : CT} {v : Nat} (hK : WFk K) (hc : RCc K nw) (hv : v ≤ 10) (P : Option (Int64 × DT) → Prop) (C : Int32 → Int64 → DT → Option (Int64 × DT)) (hE : ∀ a d, P (C a (lN (cSum K v (fMean K) (2 ^ kN K))) d)) (F : Nat) (hF : 32 < F) (da : DT) : P (fX5_mean_L25 nw (nI v) C F 0 0 da) := by
  have hN := WF_N hK
  have h32 : 2 ^ kN K ≤ 32 := Nat.pow_le_pow_right (n := 2) (j := 5) (by omega) hN
  have eSa := hc.2.2.1
  refine solo (fun n (x : Int32 × Int64 × DT) => fX5_mean_L25 nw (nI v) C n x.1 x.2.1 x.2.2) (fun i x => x.1 = nI i ∧ x.2.1 = lN (cSum K v (fMean K) i)) P (2 ^ kN K) ?_ ?_ (2 ^ kN K) 0 F (0, 0, da) (by omega) (by omega) ⟨rfl, rfl⟩
  · rintro i ⟨x1, x2, d⟩ n hi ⟨e1, e2⟩ ih
    simp only at e1 e2 ⊢
    subst e1 e2
    obtain ⟨d', g1, g2, g3, g4⟩ := c_odds d hK hc hv (show i < 32 by omega)
    have g5 := c_heardP g3 g4 hc hN (WF_H hK) (WF_Hp hK)
    have hb : ct (fun s => decide (0 < hIn K ((otm K v i).2.2.2.1 s))) (kN K) ≤ kN K := ct_le _ _
    have next := ih (nI (i + 1), lN (cSum K v (fMean K) (i + 1)), d') ⟨rfl, rfl⟩
    rw [cSum, fb_sm] at next
    rw [fX5_mean_L25]
    simp (disch := omega) only [nm_q, bd1_some, bd2_some, bd3_some, bd4_some, bd5_some, bd6_some, bd7_some, bd8_some, bd9_some, bd10_some, bd11_some, bd1_ite, ↓reduceIte, gd_nI, gb_nI, gb_ite, li, liL, nI_add, nI_1, pk_sub, pk_mul, pk_div, nI_clamp, nI_eq, nI_leI, nI_ltI, nI_eqn, nI_neq, nI_nn, nI_len, nI_ltn, ngI_le, ngI_lt, nng, sm10, sm8, shr_n, shl_n, and_1, fa_or, leT, leF, ltT, ltF, eqT, eqF, eSa, shl_1, g1, g5, nI_l, lN_mul, lN_add]
    exact next
  · rintro ⟨x1, x2, d⟩ n ⟨e1, e2⟩
    simp only at e1 e2 ⊢
    subst e1 e2
    rw [fX5_mean_L25]
    simp (disch := omega) only [nm_q, bd1_some, bd2_some, bd3_some, bd4_some, bd5_some, bd6_some, bd7_some, bd8_some, bd9_some, bd10_some, bd11_some, bd1_ite, ↓reduceIte, gd_nI, gb_nI, gb_ite, li, liL, nI_add, nI_1, pk_sub, pk_mul, pk_div, nI_clamp, nI_eq, nI_leI, nI_ltI, nI_eqn, nI_neq, nI_nn, nI_len, nI_ltn, ngI_le, ngI_lt, nng, sm10, sm8, shr_n, shl_n, and_1, fa_or, leT, leF, ltT, ltF, eqT, eqF, eSa, shl_1]
    exact hE _ _
