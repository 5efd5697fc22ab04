-- THE DAY of the class and of the reference, of a coast K
theorem WF_T {K : KT} (h : WFk K) {s : Nat} (hs : s < kN K) : okT (kT K s) := h.2.2.2.2.1 s hs
theorem WF_N {K : KT} (h : WFk K) : kN K ≤ 5 := h.2.2.2.1
theorem WF_W {K : KT} (h : WFk K) : kW K < 2 ^ 64 := h.1
theorem WF_wi {K : KT} (h : WFk K) {i : Nat} (hi : i < 10) : kWi K i ≤ 4 := h.2.2.1 i hi
theorem WF_9 {K : KT} (h : WFk K) : ∀ s, s < kN K → kT K s 4 ≤ 9 := fun s hs => (WF_T h hs).2.2.2.2.2
def RDy (K : KT) (d : DT) : Prop := dW d = lN (dayK K).1 ∧ (dayK K).1 < 2 ^ 64 ∧ dSa d = nI (kN K) ∧ ∀ s, s < kN K → dPl d s = nI ((dayK K).2.1 s) ∧ (dayK K).2.1 s < 64 ∧ dHo d s = nI ((dayK K).2.2.1 s) ∧ (dayK K).2.2.1 s ≤ 9 ∧ dSt d s = nI ((dayK K).2.2.2 s) ∧ (dayK K).2.2.2 s ≤ 10
theorem c_day {K : KT} {c : CT} (d : DT) (hK : WFk K) (hc : RCc K c) : ∃ d', fX1_pass d c = some d' ∧ RDy K d' := by
  obtain ⟨h1, h2, h3, h4, h5⟩ := hc
  have hN := WF_N hK
  obtain ⟨d0, b1, b2, b3, b4, b5⟩ := c_begin (T := kT K) d hN h3 (fun s hs => ⟨h4 s hs 4 (by omega), WF_9 hK s hs⟩)
  obtain ⟨F, hF⟩ : ∃ F, F = 4096 := ⟨_, rfl⟩
  have hlen := ordL_len (WF_9 hK)
  obtain ⟨d', p1, p2, p3⟩ := c_pass_lp (c := c) (W := kW K) (T := kT K) (wi := kWi K) hlen hN (fun s hs => by
    have hs2 := (ordL_mem (WF_9 hK)).mp hs
    exact ⟨by omega, WF_T hK hs2, h4 s hs2⟩) (fun h hh => WF_wi hK hh) (fun _ d => some d) (kN K) 0 F d0 (by omega) (by omega) b5 b3 (fun h hh => by rw [b4 h hh]; exact h2 h hh) ⟨by rw [b2]; exact (lN_of h1).1, WF_W hK, fun s hs => by simp at hs⟩
  refine ⟨d', ?_, p1.1, p1.2.1, p2, fun s hs => p1.2.2 s ((ordL_mem (WF_9 hK)).mpr hs)⟩
  rw [fX1_pass, ← hF, b1]
  exact p3
-- the reference
/-- the reference's working row: WALLS W, else as K -/
def RN (K : KT) (W : Nat) (now : AI) : Prop := WB W now ∧ (∀ h, h < 10 → now (8 + h) = nI (kWi K h)) ∧ now 43 = nI (kN K) ∧ (∀ s, s < kN K → ∀ k, k < 5 → now (18 + 5 * s + k) = nI (tv (kT K s) k)) ∧ (∀ h, h < kH K → now (44 + h) = nI (cell (kHp K h)))
theorem m_of {K : KT} {W s k : Nat} {now : AI} (h : RN K W now) (hN : kN K ≤ 5) (hs : s < kN K) (hk : k < 5) : fX6_of (nI s) (nI k) now = some (nI (tv (kT K s) k)) := by
  have e := h.2.2.2.1 s hs k hk
  simp (disch := omega) only [fX6_of, nm_q, bd1_some, bd2_some, bd3_some, bd4_some, bd5_some, bd6_some, bd7_some, bd8_some, bd9_some, bd10_some, bd11_some, bd1_ite, ↓reduceIte, gd_nI, gb_nI, gb_ite, li, liL, nI_add, nI_1, pk_sub, pk_mul, pk_div, nI_clamp, nI_eq, nI_leI, nI_ltI, nI_eqn, nI_neq, nI_nn, nI_len, nI_ltn, ngI_le, ngI_lt, nng, sm10, sm8, shr_n, shl_n, and_1, fa_or, e]
theorem m_reach {K : KT} {W s : Nat} {now : AI} (h : RN K W now) (hN : kN K ≤ 5) (hs : s < kN K) (ht : okT (kT K s)) : fX6_reachOf (nI s) now = some (nI (rch (kT K s 0) (kT K s 3))) := by
  obtain ⟨h0, h1, h2, h3, h3', h4⟩ := ht
  have e3 : fX6_of (nI s) (nI 3) now = some (nI (kT K s 3)) := m_of h hN hs (k := 3) (by omega)
  have e0 : fX6_of (nI s) (nI 0) now = some (nI (kT K s 0)) := m_of h hN hs (k := 0) (by omega)
  simp (disch := omega) only [fX6_reachOf, e3, e0, nm_q, bd1_some, bd2_some, bd3_some, bd4_some, bd5_some, bd6_some, bd7_some, bd8_some, bd9_some, bd10_some, bd11_some, bd1_ite, ↓reduceIte, gd_nI, gb_nI, gb_ite, li, liL, nI_add, nI_1, pk_sub, pk_mul, pk_div, nI_clamp, nI_eq, nI_leI, nI_ltI, nI_eqn, nI_neq, nI_nn, nI_len, nI_ltn, ngI_le, ngI_lt, nng, sm10, sm8, shr_n, shl_n, and_1, fa_or]
  unfold rch
  by_cases c1 : kT K s 0 = 1
  · simp only [if_pos c1]
  · simp only [if_neg c1]
    by_cases c2 : kT K s 0 = 2
    · simp only [if_pos c2]
    · simp only [if_neg c2]
      by_cases c3 : kT K s 0 = 3
      · simp only [if_pos c3]
      · simp only [if_neg c3]
theorem m_flt {K : KT} {W s : Nat} {now : AI} (h : RN K W now) (hN : kN K ≤ 5) (hs : s < kN K) (ht : okT (kT K s)) (C : Int32 → Int32 → Int32 → Option (AI × AI × AI × AI)) : ∀ r g p n, g + r = rch (kT K s 0) (kT K s 3) → r < n → p < 64 → fX6_flies_L38 now (nI s) (if kT K s 0 = 3 then nI 1 else nI 0) C n (eM (onP p (kT K s 2))) (nI g) (nI (cell p)) = C (eM (onP (flt W (kT K s 0) (kT K s 2) r p g).1 (kT K s 2))) (nI (flt W (kT K s 0) (kT K s 2) r p g).2) (nI (cell (flt W (kT K s 0) (kT K s 2) r p g).1)) := by
  have hr := m_reach h hN hs ht
  obtain ⟨h0, h1, h2, h3, h3', h4⟩ := ht
  have hr2 := rch_le (k := kT K s 0) h3'
  have e2 : fX6_of (nI s) 2 now = some (nI (kT K s 2)) := m_of h hN hs (k := 2) (by omega)
  intro r
  induction r with
  | zero =>
    intro g p n hg hn hp
    obtain ⟨n, rfl⟩ : ∃ m, n = m + 1 := ⟨n - 1, by omega⟩
    rw [fX6_flies_L38, flt, hr]
    simp (disch := omega) only [nm_q, bd1_some, bd2_some, bd3_some, bd4_some, bd5_some, bd6_some, bd7_some, bd8_some, bd9_some, bd10_some, bd11_some, bd1_ite, ↓reduceIte, gd_nI, gb_nI, gb_ite, li, liL, nI_add, nI_1, pk_sub, pk_mul, pk_div, nI_clamp, nI_eq, nI_leI, nI_ltI, nI_eqn, nI_neq, nI_nn, nI_len, nI_ltn, ngI_le, ngI_lt, nng, sm10, sm8, shr_n, shl_n, and_1, fa_or, leT, leF, ltT, ltF, eqT, eqF]
  | succ r ih =>
    intro g p n hg hn hp
    obtain ⟨n, rfl⟩ : ∃ m, n = m + 1 := ⟨n - 1, by omega⟩
    rw [fX6_flies_L38, flt, hr, bd1_some, if_neg (nI_ge (show g < rch (kT K s 0) (kT K s 3) by omega) (by omega))]
    cases e : onP p (kT K s 2) with
    | none =>
      rw [if_pos (show eM none = -4 from rfl)]
      simp only [e]
    | some q =>
      have hq := onP_lt hp e
      have hq2 := cell_lt hq
      have ih2 := ih (g + 1) q n (by omega) (by omega) hq
      rw [eM_s, if_neg (by rw [show (-4 : Int32) = -nI 4 from rfl, nI_eqn (by omega) (by omega) (by omega)]; exact fun h => h)]
      simp only [m_wall h.1 hq, bd1_some, nm, e2, m_on q hq _ (show kT K s 2 < 4 by omega), nI_1]
      by_cases c3 : kT K s 0 = 3
      · rw [if_pos c3] at ih2 ⊢
        rw [if_neg (show ¬ nI 1 = 0 from n10)]
        simp only [show op W (kT K s 0) q = true by simp [op, c3], tt_i]
        exact ih2
      · rw [if_neg c3] at ih2 ⊢
        rw [if_pos (show nI 0 = 0 from rfl)]
        cases ew : W.testBit q with
        | true =>
          rw [tt_i, if_neg (show ¬ nI 1 = 0 from n10)]
          simp only [show op W (kT K s 0) q = false by simp [op, c3, ew], ff_i, e, eM_s]
        | false =>
          rw [ff_i, if_pos (show nI 0 = 0 from rfl)]
          simp only [show op W (kT K s 0) q = true by simp [op, c3, ew], tt_i]
          exact ih2
