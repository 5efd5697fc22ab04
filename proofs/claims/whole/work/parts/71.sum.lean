-- sums over the sayings; WINDS; what was SEEN
def stpS (K : KT) : Nat := fb_sm (fun s => (dayK K).2.2.2 s) (kN K)
def orS (f : Nat → Nat) : Nat → Nat
  | 0 => 0
  | n + 1 => orS f n ||| 2 ^ f n
def hrsS (K : KT) : Nat := orS (fun s => (dayK K).2.2.1 s) (kN K)
theorem c_steps {K : KT} {d : DT} (hd : RDy K d) (hN : kN K ≤ 5) : fX1_allSteps d = some (nI (stpS K)) := by
  obtain ⟨h1, h2, h3, h4⟩ := hd
  obtain ⟨F, hF⟩ : ∃ F, F = 4096 := ⟨_, rfl⟩
  rw [fX1_allSteps, ← hF]
  refine solo (fun n (t : Int32 × Int32) => fX1_allSteps_L4 d (fun v1 v2 => some v2) n t.1 t.2) (fun i t => t = (nI i, nI (fb_sm (fun s => (dayK K).2.2.2 s) i))) (fun x => x = some (nI (stpS K))) (kN K) ?_ ?_ (kN K) 0 F (nI 0, nI 0) (by omega) (by omega) rfl
  · rintro i t n hi rfl ih
    have := ih _ rfl
    rw [fb_sm] at this
    obtain ⟨a1, a2, a3, a4, a5, a6⟩ := h4 i hi
    show fX1_allSteps_L4 d _ (n + 1) (nI i) (nI (fb_sm (fun s => (dayK K).2.2.2 s) i)) = _
    rw [fX1_allSteps_L4]
    simp (disch := omega) only [nm_q, bd1_some, bd2_some, bd3_some, bd4_some, bd5_some, bd6_some, bd7_some, bd8_some, bd9_some, bd10_some, bd11_some, bd1_ite, ↓reduceIte, gd_nI, gb_nI, gb_ite, li, liL, nI_add, nI_1, pk_sub, pk_mul, pk_div, nI_clamp, nI_eq, nI_leI, nI_ltI, nI_eqn, nI_neq, nI_nn, nI_len, nI_ltn, ngI_le, ngI_lt, nng, sm10, sm8, shr_n, shl_n, and_1, fa_or, leT, leF, ltT, ltF, eqT, eqF, h3, a5]
    exact this
  · rintro t n rfl
    show fX1_allSteps_L4 d _ (n + 1) (nI (kN K)) (nI (fb_sm (fun s => (dayK K).2.2.2 s) (kN K))) = _
    rw [fX1_allSteps_L4]
    simp (disch := omega) only [nm_q, bd1_some, bd2_some, bd3_some, bd4_some, bd5_some, bd6_some, bd7_some, bd8_some, bd9_some, bd10_some, bd11_some, bd1_ite, ↓reduceIte, gd_nI, gb_nI, gb_ite, li, liL, nI_add, nI_1, pk_sub, pk_mul, pk_div, nI_clamp, nI_eq, nI_leI, nI_ltI, nI_eqn, nI_neq, nI_nn, nI_len, nI_ltn, ngI_le, ngI_lt, nng, sm10, sm8, shr_n, shl_n, and_1, fa_or, leT, leF, ltT, ltF, eqT, eqF, h3]
    rfl
theorem c_hours {K : KT} {d : DT} (hd : RDy K d) (hN : kN K ≤ 5) : fX1_hoursOfLanding d = some (nI (hrsS K)) := by
  obtain ⟨h1, h2, h3, h4⟩ := hd
  obtain ⟨F, hF⟩ : ∃ F, F = 4096 := ⟨_, rfl⟩
  rw [fX1_hoursOfLanding, ← hF]
  refine solo (fun n (t : Int32 × Int32) => fX1_hoursOfLanding_L4 d (fun v1 v2 => some v2) n t.1 t.2) (fun i t => t = (nI i, nI (orS (fun s => (dayK K).2.2.1 s) i))) (fun x => x = some (nI (hrsS K))) (kN K) ?_ ?_ (kN K) 0 F (nI 0, nI 0) (by omega) (by omega) rfl
  · rintro i t n hi rfl ih
    have := ih _ rfl
    rw [orS] at this
    obtain ⟨a1, a2, a3, a4, a5, a6⟩ := h4 i hi
    show fX1_hoursOfLanding_L4 d _ (n + 1) (nI i) (nI (orS (fun s => (dayK K).2.2.1 s) i)) = _
    rw [fX1_hoursOfLanding_L4]
    simp (disch := omega) only [nm_q, bd1_some, bd2_some, bd3_some, bd4_some, bd5_some, bd6_some, bd7_some, bd8_some, bd9_some, bd10_some, bd11_some, bd1_ite, ↓reduceIte, gd_nI, gb_nI, gb_ite, li, liL, nI_add, nI_1, pk_sub, pk_mul, pk_div, nI_clamp, nI_eq, nI_leI, nI_ltI, nI_eqn, nI_neq, nI_nn, nI_len, nI_ltn, ngI_le, ngI_lt, nng, sm10, sm8, shr_n, shl_n, and_1, fa_or, leT, leF, ltT, ltF, eqT, eqF, h3, a3, shl_1, shl_0, Nat.zero_mul, Nat.or_zero, Nat.one_mul, Nat.add_zero, flag_1, flag_0]
    exact this
  · rintro t n rfl
    show fX1_hoursOfLanding_L4 d _ (n + 1) (nI (kN K)) (nI (orS (fun s => (dayK K).2.2.1 s) (kN K))) = _
    rw [fX1_hoursOfLanding_L4]
    simp (disch := omega) only [nm_q, bd1_some, bd2_some, bd3_some, bd4_some, bd5_some, bd6_some, bd7_some, bd8_some, bd9_some, bd10_some, bd11_some, bd1_ite, ↓reduceIte, gd_nI, gb_nI, gb_ite, li, liL, nI_add, nI_1, pk_sub, pk_mul, pk_div, nI_clamp, nI_eq, nI_leI, nI_ltI, nI_eqn, nI_neq, nI_nn, nI_len, nI_ltn, ngI_le, ngI_lt, nng, sm10, sm8, shr_n, shl_n, and_1, fa_or, leT, leF, ltT, ltF, eqT, eqF, h3]
    rfl
theorem m_sumL {K : KT} {now la lh ls : AI} (h : RMy K now la lh ls) (hN : kN K ≤ 5) (C : Int32 → Int32 → Int32 → Option (Int32 × AI × AI × AI × AI)) (F : Nat) (hF : 6 < F) : fX6_sum_L25 now lh ls C F 0 0 0 = C (nI (kN K)) (nI (hrsS K)) (nI (stpS K)) := by
  have h3 := h.1.2.2.1
  refine solo (fun n (t : Int32 × Int32 × Int32) => fX6_sum_L25 now lh ls C n t.1 t.2.1 t.2.2) (fun i t => t = (nI i, nI (orS (fun s => (dayK K).2.2.1 s) i), nI (fb_sm (fun s => (dayK K).2.2.2 s) i))) (fun x => x = C (nI (kN K)) (nI (hrsS K)) (nI (stpS K))) (kN K) ?_ ?_ (kN K) 0 F (nI 0, nI 0, nI 0) (by omega) (by omega) rfl
  · rintro i t n hi rfl ih
    have := ih _ rfl
    rw [orS, fb_sm] at this
    obtain ⟨a1, a2, a3, a4, a5, a6⟩ := h.2 i hi
    show fX6_sum_L25 now lh ls C (n + 1) (nI i) (nI (orS (fun s => (dayK K).2.2.1 s) i)) (nI (fb_sm (fun s => (dayK K).2.2.2 s) i)) = _
    rw [fX6_sum_L25]
    simp (disch := omega) only [nm_q, bd1_some, bd2_some, bd3_some, bd4_some, bd5_some, bd6_some, bd7_some, bd8_some, bd9_some, bd10_some, bd11_some, bd1_ite, ↓reduceIte, gd_nI, gb_nI, gb_ite, li, liL, nI_add, nI_1, pk_sub, pk_mul, pk_div, nI_clamp, nI_eq, nI_leI, nI_ltI, nI_eqn, nI_neq, nI_nn, nI_len, nI_ltn, ngI_le, ngI_lt, nng, sm10, sm8, shr_n, shl_n, and_1, fa_or, leT, leF, ltT, ltF, eqT, eqF, h3, a3, a5, shl_1, shl_0, Nat.zero_mul, Nat.or_zero, Nat.one_mul, Nat.add_zero, flag_1, flag_0]
    exact this
  · rintro t n rfl
    show fX6_sum_L25 now lh ls C (n + 1) (nI (kN K)) (nI (orS (fun s => (dayK K).2.2.1 s) (kN K))) (nI (fb_sm (fun s => (dayK K).2.2.2 s) (kN K))) = _
    rw [fX6_sum_L25]
    simp (disch := omega) only [nm_q, bd1_some, bd2_some, bd3_some, bd4_some, bd5_some, bd6_some, bd7_some, bd8_some, bd9_some, bd10_some, bd11_some, bd1_ite, ↓reduceIte, gd_nI, gb_nI, gb_ite, li, liL, nI_add, nI_1, pk_sub, pk_mul, pk_div, nI_clamp, nI_eq, nI_leI, nI_ltI, nI_eqn, nI_neq, nI_nn, nI_len, nI_ltn, ngI_le, ngI_lt, nng, sm10, sm8, shr_n, shl_n, and_1, fa_or, leT, leF, ltT, ltF, eqT, eqF, h3]
    rfl
def wdy (K : KT) : Nat := bs (fun h => !(kWi K h == 4)) 10
theorem c_windy {K : KT} {c : CT} (hK : WFk K) (hc : RCc K c) : fX0_windyHours c = some (nI (wdy K)) := by
  have h2 := hc.2.1
  obtain ⟨F, hF⟩ : ∃ F, F = 4096 := ⟨_, rfl⟩
  rw [fX0_windyHours, ← hF]
  refine solo (fun n (t : Int32 × Int32) => fX0_windyHours_L4 c (fun v1 v2 => some v2) n t.1 t.2) (fun i t => t = (nI i, nI (bs (fun h => !(kWi K h == 4)) i))) (fun x => x = some (nI (wdy K))) 10 ?_ ?_ 10 0 F (nI 0, nI 0) (by omega) (by omega) rfl
  · rintro i t n hi rfl ih
    have := ih _ rfl
    rw [bs] at this
    have a1 := h2 i hi
    have a2 := WF_wi hK hi
    show fX0_windyHours_L4 c _ (n + 1) (nI i) (nI (bs (fun h => !(kWi K h == 4)) i)) = _
    rw [fX0_windyHours_L4]
    by_cases e : kWi K i = 4
    · rw [if_neg (by simpa using e), or_0] at this
      simp (disch := omega) only [nm_q, bd1_some, bd2_some, bd3_some, bd4_some, bd5_some, bd6_some, bd7_some, bd8_some, bd9_some, bd10_some, bd11_some, bd1_ite, ↓reduceIte, gd_nI, gb_nI, gb_ite, li, liL, nI_add, nI_1, pk_sub, pk_mul, pk_div, nI_clamp, nI_eq, nI_leI, nI_ltI, nI_eqn, nI_neq, nI_nn, nI_len, nI_ltn, ngI_le, ngI_lt, nng, sm10, sm8, shr_n, shl_n, and_1, fa_or, leT, leF, ltT, ltF, eqT, eqF, a1, shl_1, shl_0, Nat.zero_mul, Nat.or_zero, Nat.one_mul, Nat.add_zero, flag_1, flag_0]
      exact this
    · rw [if_pos (by simpa using e)] at this
      simp (disch := omega) only [nm_q, bd1_some, bd2_some, bd3_some, bd4_some, bd5_some, bd6_some, bd7_some, bd8_some, bd9_some, bd10_some, bd11_some, bd1_ite, ↓reduceIte, gd_nI, gb_nI, gb_ite, li, liL, nI_add, nI_1, pk_sub, pk_mul, pk_div, nI_clamp, nI_eq, nI_leI, nI_ltI, nI_eqn, nI_neq, nI_nn, nI_len, nI_ltn, ngI_le, ngI_lt, nng, sm10, sm8, shr_n, shl_n, and_1, fa_or, leT, leF, ltT, ltF, eqT, eqF, a1, shl_1, shl_0, Nat.zero_mul, Nat.or_zero, Nat.one_mul, Nat.add_zero, flag_1, flag_0]
      exact this
  · rintro t n rfl
    show fX0_windyHours_L4 c _ (n + 1) (nI 10) (nI (bs (fun h => !(kWi K h == 4)) 10)) = _
    rw [fX0_windyHours_L4]
    simp (disch := omega) only [nm_q, bd1_some, bd2_some, bd3_some, bd4_some, bd5_some, bd6_some, bd7_some, bd8_some, bd9_some, bd10_some, bd11_some, bd1_ite, ↓reduceIte, gd_nI, gb_nI, gb_ite, li, liL, nI_add, nI_1, pk_sub, pk_mul, pk_div, nI_clamp, nI_eq, nI_leI, nI_ltI, nI_eqn, nI_neq, nI_nn, nI_len, nI_ltn, ngI_le, ngI_lt, nng, sm10, sm8, shr_n, shl_n, and_1, fa_or, leT, leF, ltT, ltF, eqT, eqF]
    rfl
theorem m_windy {K : KT} {W : Nat} {now : AI} (hK : WFk K) (hR : RN K W now) (C : Int32 → Int32 → Option (Int32 × AI)) (F : Nat) (hF : 10 < F) : fX6_rule_L8 now C F 0 0 = C (nI 10) (nI (wdy K)) := by
  have h2 := hR.2.1
  refine solo (fun n (t : Int32 × Int32) => fX6_rule_L8 now C n t.1 t.2) (fun i t => t = (nI i, nI (bs (fun h => !(kWi K h == 4)) i))) (fun x => x = C (nI 10) (nI (wdy K))) 10 ?_ ?_ 10 0 F (nI 0, nI 0) (by omega) (by omega) rfl
  · rintro i t n hi rfl ih
    have := ih _ rfl
    rw [bs] at this
    have a1 := h2 i hi
    have a2 := WF_wi hK hi
    show fX6_rule_L8 now C (n + 1) (nI i) (nI (bs (fun h => !(kWi K h == 4)) i)) = _
    rw [fX6_rule_L8]
    by_cases e : kWi K i = 4
    · rw [if_neg (by simpa using e), or_0] at this
      simp (disch := omega) only [nm_q, bd1_some, bd2_some, bd3_some, bd4_some, bd5_some, bd6_some, bd7_some, bd8_some, bd9_some, bd10_some, bd11_some, bd1_ite, ↓reduceIte, gd_nI, gb_nI, gb_ite, li, liL, nI_add, nI_1, pk_sub, pk_mul, pk_div, nI_clamp, nI_eq, nI_leI, nI_ltI, nI_eqn, nI_neq, nI_nn, nI_len, nI_ltn, ngI_le, ngI_lt, nng, sm10, sm8, shr_n, shl_n, and_1, fa_or, leT, leF, ltT, ltF, eqT, eqF, a1, shl_1, shl_0, Nat.zero_mul, Nat.or_zero, Nat.one_mul, Nat.add_zero, flag_1, flag_0]
      exact this
    · rw [if_pos (by simpa using e)] at this
      simp (disch := omega) only [nm_q, bd1_some, bd2_some, bd3_some, bd4_some, bd5_some, bd6_some, bd7_some, bd8_some, bd9_some, bd10_some, bd11_some, bd1_ite, ↓reduceIte, gd_nI, gb_nI, gb_ite, li, liL, nI_add, nI_1, pk_sub, pk_mul, pk_div, nI_clamp, nI_eq, nI_leI, nI_ltI, nI_eqn, nI_neq, nI_nn, nI_len, nI_ltn, ngI_le, ngI_lt, nng, sm10, sm8, shr_n, shl_n, and_1, fa_or, leT, leF, ltT, ltF, eqT, eqF, a1, shl_1, shl_0, Nat.zero_mul, Nat.or_zero, Nat.one_mul, Nat.add_zero, flag_1, flag_0]
      exact this
  · rintro t n rfl
    show fX6_rule_L8 now C (n + 1) (nI 10) (nI (bs (fun h => !(kWi K h == 4)) 10)) = _
    rw [fX6_rule_L8]
    simp (disch := omega) only [nm_q, bd1_some, bd2_some, bd3_some, bd4_some, bd5_some, bd6_some, bd7_some, bd8_some, bd9_some, bd10_some, bd11_some, bd1_ite, ↓reduceIte, gd_nI, gb_nI, gb_ite, li, liL, nI_add, nI_1, pk_sub, pk_mul, pk_div, nI_clamp, nI_eq, nI_leI, nI_ltI, nI_eqn, nI_neq, nI_nn, nI_len, nI_ltn, ngI_le, ngI_lt, nng, sm10, sm8, shr_n, shl_n, and_1, fa_or, leT, leF, ltT, ltF, eqT, eqF]
    rfl
def frcS (K : KT) : Nat := fb_sm (fun s => kT K s 3) (kN K)
theorem c_forcesAll {K : KT} {c : CT} (hN : kN K ≤ 5) (hc : RCc K c) : fX0_allForces c = some (nI (frcS K)) := by
  obtain ⟨_, _, h3, h4, _⟩ := hc
  obtain ⟨F, hF⟩ : ∃ F, F = 4096 := ⟨_, rfl⟩
  rw [fX0_allForces, ← hF]
  refine solo (fun n (t : Int32 × Int32) => fX0_allForces_L4 c (fun v1 v2 => some v2) n t.1 t.2) (fun i t => t = (nI i, nI (fb_sm (fun s => kT K s 3) i))) (fun x => x = some (nI (frcS K))) (kN K) ?_ ?_ (kN K) 0 F (nI 0, nI 0) (by omega) (by omega) rfl
  · rintro i t n hi rfl ih
    have := ih _ rfl
    rw [fb_sm] at this
    have a1 : cTo c i 3 = nI (kT K i 3) := h4 i hi 3 (by omega)
    show fX0_allForces_L4 c _ (n + 1) (nI i) (nI (fb_sm (fun s => kT K s 3) i)) = _
    rw [fX0_allForces_L4]
    simp (disch := omega) only [nm_q, bd1_some, bd2_some, bd3_some, bd4_some, bd5_some, bd6_some, bd7_some, bd8_some, bd9_some, bd10_some, bd11_some, bd1_ite, ↓reduceIte, gd_nI, gb_nI, gb_ite, li, liL, nI_add, nI_1, pk_sub, pk_mul, pk_div, nI_clamp, nI_eq, nI_leI, nI_ltI, nI_eqn, nI_neq, nI_nn, nI_len, nI_ltn, ngI_le, ngI_lt, nng, sm10, sm8, shr_n, shl_n, and_1, fa_or, leT, leF, ltT, ltF, eqT, eqF, h3, a1]
    exact this
  · rintro t n rfl
    show fX0_allForces_L4 c _ (n + 1) (nI (kN K)) (nI (fb_sm (fun s => kT K s 3) (kN K))) = _
    rw [fX0_allForces_L4]
    simp (disch := omega) only [nm_q, bd1_some, bd2_some, bd3_some, bd4_some, bd5_some, bd6_some, bd7_some, bd8_some, bd9_some, bd10_some, bd11_some, bd1_ite, ↓reduceIte, gd_nI, gb_nI, gb_ite, li, liL, nI_add, nI_1, pk_sub, pk_mul, pk_div, nI_clamp, nI_eq, nI_leI, nI_ltI, nI_eqn, nI_neq, nI_nn, nI_len, nI_ltn, ngI_le, ngI_lt, nng, sm10, sm8, shr_n, shl_n, and_1, fa_or, leT, leF, ltT, ltF, eqT, eqF, h3]
    rfl
theorem m_forcesAll {K : KT} {W : Nat} {now : AI} (hN : kN K ≤ 5) (hR : RN K W now) (C : Int32 → Int32 → Option (Int32 × AI)) (F : Nat) (hF : 6 < F) : fX6_count_L8 now C F 0 0 = C (nI (kN K)) (nI (frcS K)) := by
  have h3 := hR.2.2.1
  refine solo (fun n (t : Int32 × Int32) => fX6_count_L8 now C n t.1 t.2) (fun i t => t = (nI i, nI (fb_sm (fun s => kT K s 3) i))) (fun x => x = C (nI (kN K)) (nI (frcS K))) (kN K) ?_ ?_ (kN K) 0 F (nI 0, nI 0) (by omega) (by omega) rfl
  · rintro i t n hi rfl ih
    have := ih _ rfl
    rw [fb_sm] at this
    have a1 : fX6_of (nI i) (nI 3) now = some (nI (kT K i 3)) := m_of hR hN hi (k := 3) (by omega)
    show fX6_count_L8 now C (n + 1) (nI i) (nI (fb_sm (fun s => kT K s 3) i)) = _
    rw [fX6_count_L8]
    simp (disch := omega) only [nm_q, bd1_some, bd2_some, bd3_some, bd4_some, bd5_some, bd6_some, bd7_some, bd8_some, bd9_some, bd10_some, bd11_some, bd1_ite, ↓reduceIte, gd_nI, gb_nI, gb_ite, li, liL, nI_add, nI_1, pk_sub, pk_mul, pk_div, nI_clamp, nI_eq, nI_leI, nI_ltI, nI_eqn, nI_neq, nI_nn, nI_len, nI_ltn, ngI_le, ngI_lt, nng, sm10, sm8, shr_n, shl_n, and_1, fa_or, leT, leF, ltT, ltF, eqT, eqF, h3, a1]
    exact this
  · rintro t n rfl
    show fX6_count_L8 now C (n + 1) (nI (kN K)) (nI (fb_sm (fun s => kT K s 3) (kN K))) = _
    rw [fX6_count_L8]
    simp (disch := omega) only [nm_q, bd1_some, bd2_some, bd3_some, bd4_some, bd5_some, bd6_some, bd7_some, bd8_some, bd9_some, bd10_some, bd11_some, bd1_ite, ↓reduceIte, gd_nI, gb_nI, gb_ite, li, liL, nI_add, nI_1, pk_sub, pk_mul, pk_div, nI_clamp, nI_eq, nI_leI, nI_ltI, nI_eqn, nI_neq, nI_nn, nI_len, nI_ltn, ngI_le, ngI_lt, nng, sm10, sm8, shr_n, shl_n, and_1, fa_or, leT, leF, ltT, ltF, eqT, eqF, h3]
    rfl
/-- all is as it was SEEN, below n -/
def asB (K : KT) (P : Nat → Nat) : Nat → Bool
  | 0 => true
  | n + 1 => asB K P n && (P (kSs K n) == kSp K n)
theorem asB_f {K : KT} {P : Nat → Nat} {i : Nat} (h : P (kSs K i) ≠ kSp K i) : ∀ {n : Nat}, i < n → asB K P n = false
  | 0, h2 => absurd h2 (Nat.not_lt_zero _)
  | n + 1, h2 => by
    rw [asB]
    by_cases c : i = n
    · subst c
      simp [h]
    · rw [asB_f h (show i < n by omega)]
      rfl
theorem c_seen {K : KT} {c : CT} {d : DT} (hd : RDy K d) (hK : WFk K) (hc : RCc K c) : fX1_isAsSeen d c = some (if asB K (dayK K).2.1 (kS K) then nI 1 else nI 0) := by
  obtain ⟨_, _, _, h4⟩ := hd
  have hN := WF_N hK
  obtain ⟨_, _, _, _, _, _, e1, e2, e3⟩ := hc
  obtain ⟨_, _, _, _, _, _, _, f1, f2⟩ := hK
  obtain ⟨F, hF⟩ : ∃ F, F = 4096 := ⟨_, rfl⟩
  rw [fX1_isAsSeen, ← hF]
  refine solo (fun n (t : Int32) => fX1_isAsSeen_L2 d c (fun v1 => some 1) n t) (fun i t => t = nI i ∧ asB K (dayK K).2.1 i = true) (fun x => x = some (if asB K (dayK K).2.1 (kS K) then nI 1 else nI 0)) (kS K) ?_ ?_ (kS K) 0 F (nI 0) (by omega) (by omega) ⟨rfl, rfl⟩
  · rintro i t n hi ⟨rfl, hi2⟩ ih
    obtain ⟨g1, g2⟩ := f2 i hi
    obtain ⟨a1, a2, _⟩ := h4 _ g1
    show fX1_isAsSeen_L2 d c _ (n + 1) (nI i) = _
    rw [fX1_isAsSeen_L2]
    by_cases e : (dayK K).2.1 (kSs K i) = kSp K i
    · have := ih (nI (i + 1)) ⟨rfl, by rw [asB, hi2, e]; simp⟩
      simp (disch := omega) only [nm_q, bd1_some, bd2_some, bd3_some, bd4_some, bd5_some, bd6_some, bd7_some, bd8_some, bd9_some, bd10_some, bd11_some, bd1_ite, ↓reduceIte, gd_nI, gb_nI, gb_ite, li, liL, nI_add, nI_1, pk_sub, pk_mul, pk_div, nI_clamp, nI_eq, nI_leI, nI_ltI, nI_eqn, nI_neq, nI_nn, nI_len, nI_ltn, ngI_le, ngI_lt, nng, sm10, sm8, shr_n, shl_n, and_1, fa_or, leT, leF, ltT, ltF, eqT, eqF, e1, e2 i hi, e3 i hi, a1]
      exact this
    · rw [asB_f e hi]
      simp (disch := omega) only [nm_q, bd1_some, bd2_some, bd3_some, bd4_some, bd5_some, bd6_some, bd7_some, bd8_some, bd9_some, bd10_some, bd11_some, bd1_ite, ↓reduceIte, gd_nI, gb_nI, gb_ite, li, liL, nI_add, nI_1, pk_sub, pk_mul, pk_div, nI_clamp, nI_eq, nI_leI, nI_ltI, nI_eqn, nI_neq, nI_nn, nI_len, nI_ltn, ngI_le, ngI_lt, nng, sm10, sm8, shr_n, shl_n, and_1, fa_or, leT, leF, ltT, ltF, eqT, eqF, e1, e2 i hi, e3 i hi, a1]
      rfl
  · rintro t n ⟨rfl, hi2⟩
    show fX1_isAsSeen_L2 d c _ (n + 1) (nI (kS K)) = _
    rw [fX1_isAsSeen_L2]
    simp (disch := omega) only [nm_q, bd1_some, bd2_some, bd3_some, bd4_some, bd5_some, bd6_some, bd7_some, bd8_some, bd9_some, bd10_some, bd11_some, bd1_ite, ↓reduceIte, gd_nI, gb_nI, gb_ite, li, liL, nI_add, nI_1, pk_sub, pk_mul, pk_div, nI_clamp, nI_eq, nI_leI, nI_ltI, nI_eqn, nI_neq, nI_nn, nI_len, nI_ltn, ngI_le, ngI_lt, nng, sm10, sm8, shr_n, shl_n, and_1, fa_or, leT, leF, ltT, ltF, eqT, eqF, e1]
    rw [hi2]
    rfl
