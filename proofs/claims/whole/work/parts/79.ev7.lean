-- SHEETS
theorem sel4_0 {β : Type} (a b c d : β) : sel4 (nI 0) a b c d = a := by rw [sel4, if_pos (by decide)]
theorem sel4_1 {β : Type} (a b c d : β) : sel4 (nI 1) a b c d = b := by rw [sel4, if_neg (by decide), if_pos (by decide)]
theorem sel4_2 {β : Type} (a b c d : β) : sel4 (nI 2) a b c d = c := by rw [sel4, if_neg (by decide), if_neg (by decide), if_pos (by decide)]
theorem sel4_3 {β : Type} (a b c d : β) : sel4 (nI 3) a b c d = d := by rw [sel4, if_neg (by decide), if_neg (by decide), if_neg (by decide)]
theorem sheetOf (p1 p2 : Int32) : (∃ k q, k < 4 ∧ q < 3 ∧ p1 = nI k ∧ p2 = nI q ∧ fX6_isSheet p1 p2 = some (nI 1)) ∨ ((p1 < nI 0 ∨ nI 3 < p1) ∧ fX6_isSheet p1 p2 = some (nI 0)) ∨ (∃ k, k < 4 ∧ p1 = nI k ∧ (p2 < nI 0 ∨ nI 2 < p2) ∧ fX6_isSheet p1 p2 = some (nI 0)) := by
  rcases in_rg p1 0 3 (by omega) (by omega) with ⟨k, h1, h2, rfl, h3⟩ | ⟨h1, h2⟩
  · rcases in_rg p2 0 2 (by omega) (by omega) with ⟨q, g1, g2, rfl, g3⟩ | ⟨g1, g2⟩
    · refine Or.inl ⟨k, q, by omega, by omega, rfl, rfl, ?_⟩
      simp (disch := omega) only [fX6_isSheet, nm_q, bd1_some, bd2_some, bd3_some, bd4_some, bd5_some, bd6_some, bd7_some, bd8_some, bd9_some, bd10_some, bd11_some, bd1_ite, ↓reduceIte, gd_nI, gb_nI, gb_ite, li, liL, nI_add, nI_1, pk_sub, pk_mul, pk_div, nI_clamp, nI_eq, nI_leI, nI_ltI, nI_eqn, nI_neq, nI_nn, nI_len, nI_ltn, ngI_le, ngI_lt, nng, sm10, sm8, shr_n, shl_n, and_1, fa_or, leT, leF, ltT, ltF, eqT, eqF, h3, g3]
    · refine Or.inr (Or.inr ⟨k, by omega, rfl, g1, ?_⟩)
      simp (disch := omega) only [fX6_isSheet, nm_q, bd1_some, bd2_some, bd3_some, bd4_some, bd5_some, bd6_some, bd7_some, bd8_some, bd9_some, bd10_some, bd11_some, bd1_ite, ↓reduceIte, gd_nI, gb_nI, gb_ite, li, liL, nI_add, nI_1, pk_sub, pk_mul, pk_div, nI_clamp, nI_eq, nI_leI, nI_ltI, nI_eqn, nI_neq, nI_nn, nI_len, nI_ltn, ngI_le, ngI_lt, nng, sm10, sm8, shr_n, shl_n, and_1, fa_or, leT, leF, ltT, ltF, eqT, eqF, h3, g2]
  · refine Or.inr (Or.inl ⟨h1, ?_⟩)
    simp (disch := omega) only [fX6_isSheet, nm_q, bd1_some, bd2_some, bd3_some, bd4_some, bd5_some, bd6_some, bd7_some, bd8_some, bd9_some, bd10_some, bd11_some, bd1_ite, ↓reduceIte, gd_nI, gb_nI, gb_ite, li, liL, nI_add, nI_1, pk_sub, pk_mul, pk_div, nI_clamp, nI_eq, nI_leI, nI_ltI, nI_eqn, nI_neq, nI_nn, nI_len, nI_ltn, ngI_le, ngI_lt, nng, sm10, sm8, shr_n, shl_n, and_1, fa_or, leT, leF, ltT, ltF, eqT, eqF, h2]
theorem c_renew (a b : Int32) (s : ST) : ∃ f : AI, fX4_renew a b s = some (1, a, b, f) ∧ ∀ i, i < 40 → f i = nI 0 := by
  obtain ⟨F, hF⟩ : ∃ F, F = 4096 := ⟨_, rfl⟩
  refine ⟨fa_fill (fun _ => nI 0) (sCe s) 40, ?_, fun i hi => fa_fill_in hi⟩
  rw [fX4_renew, ← hF]
  simp only [nm]
  refine solo (fun n (t : Int32 × ST) => fX4_renew_L17 (fun v4 s_5 => some s_5) n t.1 t.2) (fun i t => t = (nI i, (1, a, b, fa_fill (fun _ => nI 0) (sCe s) i))) (fun x => x = some (1, a, b, fa_fill (fun _ => nI 0) (sCe s) 40)) 40 ?_ ?_ 40 0 F (nI 0, (1, a, b, sCe s)) (by omega) (by omega) (by rw [fa_fill_0])
  · rintro i t n hi rfl ih
    have := ih _ rfl
    rw [← fa_fill_succ] at this
    show fX4_renew_L17 _ (n + 1) (nI i) (1, a, b, fa_fill (fun _ => nI 0) (sCe s) i) = _
    rw [fX4_renew_L17]
    simp (disch := omega) only [nm_q, bd1_some, bd2_some, bd3_some, bd4_some, bd5_some, bd6_some, bd7_some, bd8_some, bd9_some, bd10_some, bd11_some, bd1_ite, ↓reduceIte, gd_nI, gb_nI, gb_ite, li, liL, nI_add, nI_1, pk_sub, pk_mul, pk_div, nI_clamp, nI_eq, nI_leI, nI_ltI, nI_eqn, nI_neq, nI_nn, nI_len, nI_ltn, ngI_le, ngI_lt, nng, sm10, sm8, shr_n, shl_n, and_1, fa_or, leT, leF, ltT, ltF, eqT, eqF, sCe', sCe]
    exact this
  · rintro t n rfl
    show fX4_renew_L17 _ (n + 1) (nI 40) (1, a, b, fa_fill (fun _ => nI 0) (sCe s) 40) = _
    rw [fX4_renew_L17]
    simp (disch := omega) only [nm_q, bd1_some, bd2_some, bd3_some, bd4_some, bd5_some, bd6_some, bd7_some, bd8_some, bd9_some, bd10_some, bd11_some, bd1_ite, ↓reduceIte, gd_nI, gb_nI, gb_ite, li, liL, nI_add, nI_1, pk_sub, pk_mul, pk_div, nI_clamp, nI_eq, nI_leI, nI_ltI, nI_eqn, nI_neq, nI_nn, nI_len, nI_ltn, ngI_le, ngI_lt, nng, sm10, sm8, shr_n, shl_n, and_1, fa_or, leT, leF, ltT, ltF, eqT, eqF]
theorem m_sheetL {k : Nat} (hk : k < 4) (cells : AI) (C : Int32 → AI → Option (Int32 × AI × AI × AI)) (F : Nat) (hF : 40 < F) : fX6_sheet_L40 (nI k) C F 0 cells = C (nI 40) (fb_put cells (fun _ => nI 0) (40 * k) 40) := by
  refine solo (fun n (t : Int32 × AI) => fX6_sheet_L40 (nI k) C n t.1 t.2) (fun i t => t = (nI i, fb_put cells (fun _ => nI 0) (40 * k) i)) (fun x => x = C (nI 40) (fb_put cells (fun _ => nI 0) (40 * k) 40)) 40 ?_ ?_ 40 0 F (nI 0, cells) (by omega) (by omega) (by rw [fb_put_0])
  · rintro i t n hi rfl ih
    have := ih _ rfl
    rw [← fb_put_succ] at this
    show fX6_sheet_L40 (nI k) C (n + 1) (nI i) (fb_put cells (fun _ => nI 0) (40 * k) i) = _
    rw [fX6_sheet_L40]
    simp (disch := omega) only [nm_q, bd1_some, bd2_some, bd3_some, bd4_some, bd5_some, bd6_some, bd7_some, bd8_some, bd9_some, bd10_some, bd11_some, bd1_ite, ↓reduceIte, gd_nI, gb_nI, gb_ite, li, liL, nI_add, nI_1, pk_sub, pk_mul, pk_div, nI_clamp, nI_eq, nI_leI, nI_ltI, nI_eqn, nI_neq, nI_nn, nI_len, nI_ltn, ngI_le, ngI_lt, nng, sm10, sm8, shr_n, shl_n, and_1, fa_or, leT, leF, ltT, ltF, eqT, eqF]
    exact this
  · rintro t n rfl
    show fX6_sheet_L40 (nI k) C (n + 1) (nI 40) (fb_put cells (fun _ => nI 0) (40 * k) 40) = _
    rw [fX6_sheet_L40]
    simp (disch := omega) only [nm_q, bd1_some, bd2_some, bd3_some, bd4_some, bd5_some, bd6_some, bd7_some, bd8_some, bd9_some, bd10_some, bd11_some, bd1_ite, ↓reduceIte, gd_nI, gb_nI, gb_ite, li, liL, nI_add, nI_1, pk_sub, pk_mul, pk_div, nI_clamp, nI_eq, nI_leI, nI_ltI, nI_eqn, nI_neq, nI_nn, nI_len, nI_ltn, ngI_le, ngI_lt, nng, sm10, sm8, shr_n, shl_n, and_1, fa_or, leT, leF, ltT, ltF, eqT, eqF]
theorem RS_other {k k' : Nat} {s : ST} {lanes sizes cells lanes' sizes' cells' : AI} (h : k ≠ k') (hl : ∀ j, j ≠ k' → lanes' j = lanes j) (hz : ∀ j, j ≠ k' → sizes' j = sizes j) (hc : ∀ j, (j < 40 * k' ∨ 40 * k' + 40 ≤ j) → cells' j = cells j) (r : RS k s lanes sizes cells) : RS k s lanes' sizes' cells' := by
  obtain ⟨r1, r2⟩ := r
  refine ⟨?_, fun i hi => by rw [hc _ (by omega)]; exact r2 i hi⟩
  rw [hl k h, hz k h]
  exact r1
theorem RS_new {k q n : Nat} {lanes sizes cells : AI} {f : AI} (hq : q < 3) (hn : n ≤ 40) (hf : ∀ i, i < 40 → f i = nI 0) : RS k (1, nI q, nI n, f) (upd lanes k (nI q)) (upd sizes k (nI n)) (fb_put cells (fun _ => nI 0) (40 * k) 40) := by
  refine ⟨Or.inr ⟨rfl, ⟨q, hq, rfl, pk_us⟩, n, hn, rfl, pk_us⟩, fun i hi => ?_⟩
  show _ = f i
  rw [hf i hi, fb_put_in (by omega) (by omega)]
theorem ev_sheet (v : VT) (rd : RT) (dr : CT) (nw : CT) (tr : CT) (da : DT) (i0 : CT) (i1 : CT) (s0 : ST) (s1 : ST) (s2 : ST) (s3 : ST) (st : AI) (now : AI) (isKept : AI) (hearers : Int32) (draft : AI) (dHearers : Int32) (dWalls : Int32) (toldWinds : Int32) (tape : AI) (taped : Int32) (pos : Int32) (frm : Int32) (sort : Int32) (value : Int32) (fault : Int32) (wrongAt : Int32) (landed : AI) (landedIn : AI) (stepped : AI) (isThere : AI) (isAt : AI) (isNext : AI) (landSum : Int64) (heardSum : Int64) (allWays : Int64) (ways : AI) (drawn : AI) (lanes : AI) (sizes : AI) (cells : AI) (torn : Int32) (before : AI) (hR : Rel v rd nw i0 i1 s0 s1 s2 s3 st isKept hearers tape taped fault lanes sizes cells torn) (p1 : Int32) (p2 : Int32) (p3 : Int32) : ∃ (res : Int32) (s0_x : ST) (s1_x : ST) (s2_x : ST) (s3_x : ST) (lanes_x : AI) (sizes_x : AI) (cells_x : AI), fX5_sheet p1 p2 p3 v s0 s1 s2 s3 = some (res, s0_x, s1_x, s2_x, s3_x) ∧ fX6_sheet p1 p2 p3 lanes sizes cells = some (res, lanes_x, sizes_x, cells_x) ∧ (Rel v rd nw i0 i1 s0_x s1_x s2_x s3_x st isKept hearers tape taped fault lanes_x sizes_x cells_x torn) := by
  have hR0 := hR
  obtain ⟨⟨K, hK, hc, hm⟩, r0, r1, rt, rf, q0, q1, q2, q3, rl⟩ := hR
  rcases sheetOf p1 p2 with ⟨k, q, hk, hq, rfl, rfl, f2⟩ | ⟨h1, f2⟩ | ⟨k, hk, rfl, h1, f2⟩
  · by_cases h40 : p3 ≤ nI 40
    · by_cases h0 : nI 0 ≤ p3
      · have hn : ∃ n, n ≤ 40 ∧ p3 = nI n := by
          rcases rg p3 40 (by omega) with h | h | h
          · exact h
          · exact absurd h0 (fa_of_lt h).2.1
          · exact absurd h40 (fa_of_lt h).2.1
        obtain ⟨n, hn, rfl⟩ := hn
        obtain ⟨F, hF⟩ : ∃ F, F = 4096 := ⟨_, rfl⟩
        have fm : fX6_sheet (nI k) (nI q) (nI n) lanes sizes cells = some (nI 1, upd lanes k (nI q), upd sizes k (nI n), fb_put cells (fun _ => nI 0) (40 * k) 40) := by
          rw [fX6_sheet, ← hF]
          simp only [m_sheetL hk _ _ F (by omega)]
          simp (disch := omega) only [f2, nm_q, bd1_some, bd2_some, bd3_some, bd4_some, bd5_some, bd6_some, bd7_some, bd8_some, bd9_some, bd10_some, bd11_some, bd1_ite, ↓reduceIte, gd_nI, gb_nI, gb_ite, li, liL, nI_add, nI_1, pk_sub, pk_mul, pk_div, nI_clamp, nI_eq, nI_leI, nI_ltI, nI_eqn, nI_neq, nI_nn, nI_len, nI_ltn, ngI_le, ngI_lt, nng, sm10, sm8, shr_n, shl_n, and_1, fa_or, leT, leF, ltT, ltF, eqT, eqF]
        have ot := fun (k2 : Nat) (s : ST) (h : k2 ≠ k) (r : RS k2 s lanes sizes cells) => RS_other (lanes' := upd lanes k (nI q)) (sizes' := upd sizes k (nI n)) (cells' := fb_put cells (fun _ => nI 0) (40 * k) 40) h (fun j hj => pk_un hj) (fun j hj => pk_un hj) (fun j hj => fb_put_out hj) r
        have hk4 : k = 0 ∨ k = 1 ∨ k = 2 ∨ k = 3 := by omega
        rcases hk4 with rfl | rfl | rfl | rfl
        · obtain ⟨f, e1, e2⟩ := c_renew (nI q) (nI n) s0
          refine ⟨nI 1, _, s1, s2, s3, _, _, _, ?_, fm, ⟨K, hK, hc, hm⟩, r0, r1, rt, rf, RS_new hq hn e2, ot 1 s1 (by omega) q1, ot 2 s2 (by omega) q2, ot 3 s3 (by omega) q3, rl⟩
          simp (disch := omega) only [fX5_sheet, nm_q, bd1_some, bd2_some, bd3_some, bd4_some, bd5_some, bd6_some, bd7_some, bd8_some, bd9_some, bd10_some, bd11_some, bd1_ite, ↓reduceIte, gd_nI, gb_nI, gb_ite, li, liL, nI_add, nI_1, pk_sub, pk_mul, pk_div, nI_clamp, nI_eq, nI_leI, nI_ltI, nI_eqn, nI_neq, nI_nn, nI_len, nI_ltn, ngI_le, ngI_lt, nng, sm10, sm8, shr_n, shl_n, and_1, fa_or, leT, leF, ltT, ltF, eqT, eqF]
          rw [sel4_0, e1]; rfl
        · obtain ⟨f, e1, e2⟩ := c_renew (nI q) (nI n) s1
          refine ⟨nI 1, s0, _, s2, s3, _, _, _, ?_, fm, ⟨K, hK, hc, hm⟩, r0, r1, rt, rf, ot 0 s0 (by omega) q0, RS_new hq hn e2, ot 2 s2 (by omega) q2, ot 3 s3 (by omega) q3, rl⟩
          simp (disch := omega) only [fX5_sheet, nm_q, bd1_some, bd2_some, bd3_some, bd4_some, bd5_some, bd6_some, bd7_some, bd8_some, bd9_some, bd10_some, bd11_some, bd1_ite, ↓reduceIte, gd_nI, gb_nI, gb_ite, li, liL, nI_add, nI_1, pk_sub, pk_mul, pk_div, nI_clamp, nI_eq, nI_leI, nI_ltI, nI_eqn, nI_neq, nI_nn, nI_len, nI_ltn, ngI_le, ngI_lt, nng, sm10, sm8, shr_n, shl_n, and_1, fa_or, leT, leF, ltT, ltF, eqT, eqF]
          rw [sel4_1, e1]; rfl
        · obtain ⟨f, e1, e2⟩ := c_renew (nI q) (nI n) s2
          refine ⟨nI 1, s0, s1, _, s3, _, _, _, ?_, fm, ⟨K, hK, hc, hm⟩, r0, r1, rt, rf, ot 0 s0 (by omega) q0, ot 1 s1 (by omega) q1, RS_new hq hn e2, ot 3 s3 (by omega) q3, rl⟩
          simp (disch := omega) only [fX5_sheet, nm_q, bd1_some, bd2_some, bd3_some, bd4_some, bd5_some, bd6_some, bd7_some, bd8_some, bd9_some, bd10_some, bd11_some, bd1_ite, ↓reduceIte, gd_nI, gb_nI, gb_ite, li, liL, nI_add, nI_1, pk_sub, pk_mul, pk_div, nI_clamp, nI_eq, nI_leI, nI_ltI, nI_eqn, nI_neq, nI_nn, nI_len, nI_ltn, ngI_le, ngI_lt, nng, sm10, sm8, shr_n, shl_n, and_1, fa_or, leT, leF, ltT, ltF, eqT, eqF]
          rw [sel4_2, e1]; rfl
        · obtain ⟨f, e1, e2⟩ := c_renew (nI q) (nI n) s3
          refine ⟨nI 1, s0, s1, s2, _, _, _, _, ?_, fm, ⟨K, hK, hc, hm⟩, r0, r1, rt, rf, ot 0 s0 (by omega) q0, ot 1 s1 (by omega) q1, ot 2 s2 (by omega) q2, RS_new hq hn e2, rl⟩
          simp (disch := omega) only [fX5_sheet, nm_q, bd1_some, bd2_some, bd3_some, bd4_some, bd5_some, bd6_some, bd7_some, bd8_some, bd9_some, bd10_some, bd11_some, bd1_ite, ↓reduceIte, gd_nI, gb_nI, gb_ite, li, liL, nI_add, nI_1, pk_sub, pk_mul, pk_div, nI_clamp, nI_eq, nI_leI, nI_ltI, nI_eqn, nI_neq, nI_nn, nI_len, nI_ltn, ngI_le, ngI_lt, nng, sm10, sm8, shr_n, shl_n, and_1, fa_or, leT, leF, ltT, ltF, eqT, eqF]
          rw [sel4_3, e1]; rfl
      · refine ⟨-nI 14, s0, s1, s2, s3, lanes, sizes, cells, ?_, ?_, hR0⟩
        · simp (disch := omega) only [fX5_sheet, nm_q, bd1_some, bd2_some, bd3_some, bd4_some, bd5_some, bd6_some, bd7_some, bd8_some, bd9_some, bd10_some, bd11_some, bd1_ite, ↓reduceIte, gd_nI, gb_nI, gb_ite, li, liL, nI_add, nI_1, pk_sub, pk_mul, pk_div, nI_clamp, nI_eq, nI_leI, nI_ltI, nI_eqn, nI_neq, nI_nn, nI_len, nI_ltn, ngI_le, ngI_lt, nng, sm10, sm8, shr_n, shl_n, and_1, fa_or, leT, leF, ltT, ltF, eqT, eqF]
          rw [if_pos h40, if_neg h0]
        · simp (disch := omega) only [fX6_sheet, nm_q, bd1_some, bd2_some, bd3_some, bd4_some, bd5_some, bd6_some, bd7_some, bd8_some, bd9_some, bd10_some, bd11_some, bd1_ite, ↓reduceIte, gd_nI, gb_nI, gb_ite, li, liL, nI_add, nI_1, pk_sub, pk_mul, pk_div, nI_clamp, nI_eq, nI_leI, nI_ltI, nI_eqn, nI_neq, nI_nn, nI_len, nI_ltn, ngI_le, ngI_lt, nng, sm10, sm8, shr_n, shl_n, and_1, fa_or, leT, leF, ltT, ltF, eqT, eqF, f2]
          rw [if_pos h40, if_neg h0]
    · refine ⟨-nI 1, s0, s1, s2, s3, lanes, sizes, cells, ?_, ?_, hR0⟩
      · simp (disch := omega) only [fX5_sheet, nm_q, bd1_some, bd2_some, bd3_some, bd4_some, bd5_some, bd6_some, bd7_some, bd8_some, bd9_some, bd10_some, bd11_some, bd1_ite, ↓reduceIte, gd_nI, gb_nI, gb_ite, li, liL, nI_add, nI_1, pk_sub, pk_mul, pk_div, nI_clamp, nI_eq, nI_leI, nI_ltI, nI_eqn, nI_neq, nI_nn, nI_len, nI_ltn, ngI_le, ngI_lt, nng, sm10, sm8, shr_n, shl_n, and_1, fa_or, leT, leF, ltT, ltF, eqT, eqF]
        rw [if_neg h40]
      · simp (disch := omega) only [fX6_sheet, nm_q, bd1_some, bd2_some, bd3_some, bd4_some, bd5_some, bd6_some, bd7_some, bd8_some, bd9_some, bd10_some, bd11_some, bd1_ite, ↓reduceIte, gd_nI, gb_nI, gb_ite, li, liL, nI_add, nI_1, pk_sub, pk_mul, pk_div, nI_clamp, nI_eq, nI_leI, nI_ltI, nI_eqn, nI_neq, nI_nn, nI_len, nI_ltn, ngI_le, ngI_lt, nng, sm10, sm8, shr_n, shl_n, and_1, fa_or, leT, leF, ltT, ltF, eqT, eqF, f2]
        rw [if_neg h40]
  · refine ⟨-nI 1, s0, s1, s2, s3, lanes, sizes, cells, ?_, ?_, hR0⟩
    · exact rgB (b := 3) _ _ (by omega) h1
    · simp (disch := omega) only [fX6_sheet, nm_q, bd1_some, bd2_some, bd3_some, bd4_some, bd5_some, bd6_some, bd7_some, bd8_some, bd9_some, bd10_some, bd11_some, bd1_ite, ↓reduceIte, gd_nI, gb_nI, gb_ite, li, liL, nI_add, nI_1, pk_sub, pk_mul, pk_div, nI_clamp, nI_eq, nI_leI, nI_ltI, nI_eqn, nI_neq, nI_nn, nI_len, nI_ltn, ngI_le, ngI_lt, nng, sm10, sm8, shr_n, shl_n, and_1, fa_or, leT, leF, ltT, ltF, eqT, eqF, f2]
  · refine ⟨-nI 1, s0, s1, s2, s3, lanes, sizes, cells, ?_, ?_, hR0⟩
    · rw [fX5_sheet, if_neg (nI_pos (show k < 2 ^ 31 by omega)), if_neg (show ¬ (4 : Int32) ≤ nI k from nI_ge (b := 4) (show k < 4 by omega) (by omega))]
      exact rgB (b := 2) _ _ (by omega) h1
    · simp (disch := omega) only [fX6_sheet, nm_q, bd1_some, bd2_some, bd3_some, bd4_some, bd5_some, bd6_some, bd7_some, bd8_some, bd9_some, bd10_some, bd11_some, bd1_ite, ↓reduceIte, gd_nI, gb_nI, gb_ite, li, liL, nI_add, nI_1, pk_sub, pk_mul, pk_div, nI_clamp, nI_eq, nI_leI, nI_ltI, nI_eqn, nI_neq, nI_nn, nI_len, nI_ltn, ngI_le, ngI_lt, nng, sm10, sm8, shr_n, shl_n, and_1, fa_or, leT, leF, ltT, ltF, eqT, eqF, f2]
/-- a number as a lane leaves it -/
def lanV (q : Nat) (x : Int32) : Int32 := if q = 0 then x.toInt8.toInt32 else if q = 1 then x.toInt16.toInt32 else x
theorem c_put {s : ST} {q i : Nat} (x : Int32) (hl : sLa s = nI q) (hq : q < 3) (hi : i < 40) : fX4_put (nI i) x s = some (sCe' s (upd (sCe s) i (lanV q x))) := by
  have hq3 : q = 0 ∨ q = 1 ∨ q = 2 := by omega
  rcases hq3 with rfl | rfl | rfl
  · simp (disch := omega) only [fX4_put, nm_q, bd1_some, bd2_some, bd3_some, bd4_some, bd5_some, bd6_some, bd7_some, bd8_some, bd9_some, bd10_some, bd11_some, bd1_ite, ↓reduceIte, gd_nI, gb_nI, gb_ite, li, liL, nI_add, nI_1, pk_sub, pk_mul, pk_div, nI_clamp, nI_eq, nI_leI, nI_ltI, nI_eqn, nI_neq, nI_nn, nI_len, nI_ltn, ngI_le, ngI_lt, nng, sm10, sm8, shr_n, shl_n, and_1, fa_or, leT, leF, ltT, ltF, eqT, eqF, hl]; rfl
  · simp (disch := omega) only [fX4_put, nm_q, bd1_some, bd2_some, bd3_some, bd4_some, bd5_some, bd6_some, bd7_some, bd8_some, bd9_some, bd10_some, bd11_some, bd1_ite, ↓reduceIte, gd_nI, gb_nI, gb_ite, li, liL, nI_add, nI_1, pk_sub, pk_mul, pk_div, nI_clamp, nI_eq, nI_leI, nI_ltI, nI_eqn, nI_neq, nI_nn, nI_len, nI_ltn, ngI_le, ngI_lt, nng, sm10, sm8, shr_n, shl_n, and_1, fa_or, leT, leF, ltT, ltF, eqT, eqF, hl]; rfl
  · simp (disch := omega) only [fX4_put, nm_q, bd1_some, bd2_some, bd3_some, bd4_some, bd5_some, bd6_some, bd7_some, bd8_some, bd9_some, bd10_some, bd11_some, bd1_ite, ↓reduceIte, gd_nI, gb_nI, gb_ite, li, liL, nI_add, nI_1, pk_sub, pk_mul, pk_div, nI_clamp, nI_eq, nI_leI, nI_ltI, nI_eqn, nI_neq, nI_nn, nI_len, nI_ltn, ngI_le, ngI_lt, nng, sm10, sm8, shr_n, shl_n, and_1, fa_or, leT, leF, ltT, ltF, eqT, eqF, hl]; rfl
/-- what the machine finds at a sheet, as the class says it and as the reference -/
theorem lay_one {k : Nat} {s : ST} {lanes sizes cells : AI} (hk : k < 4) (r : RS k s lanes sizes cells) (p2 p3 : Int32) : (∃ b, 0 < b ∧ b < 3 ∧ fX4_flawAt (sLa s) p2 s = some (nI b) ∧ fX6_lay (nI k) p2 p3 lanes sizes cells = some (-nI (10 + b), cells)) ∨ ∃ s' cells', fX4_flawAt (sLa s) p2 s = some (nI 0) ∧ fX4_put p2 p3 s = some s' ∧ fX6_lay (nI k) p2 p3 lanes sizes cells = some (nI 1, cells') ∧ RS k s' lanes sizes cells' ∧ ∀ j, (j < 40 * k ∨ 40 * k + 40 ≤ j) → cells' j = cells j := by
  obtain ⟨r1, r2⟩ := r
  have f2 : fX6_isSheet (nI k) (nI 0) = some (nI 1) := by
    simp (disch := omega) only [fX6_isSheet, nm_q, bd1_some, bd2_some, bd3_some, bd4_some, bd5_some, bd6_some, bd7_some, bd8_some, bd9_some, bd10_some, bd11_some, bd1_ite, ↓reduceIte, gd_nI, gb_nI, gb_ite, li, liL, nI_add, nI_1, pk_sub, pk_mul, pk_div, nI_clamp, nI_eq, nI_leI, nI_ltI, nI_eqn, nI_neq, nI_nn, nI_len, nI_ltn, ngI_le, ngI_lt, nng, sm10, sm8, shr_n, shl_n, and_1, fa_or, leT, leF, ltT, ltF, eqT, eqF, in_nI, and_self]
  rcases r1 with ⟨a1, a2⟩ | ⟨a1, ⟨q, hq, a2, a3⟩, n, hn, a4, a5⟩
  · refine Or.inl ⟨1, by omega, by omega, ?_, ?_⟩
    · rw [fX4_flawAt, if_pos a1]; rfl
    · simp (disch := omega) only [fX6_lay, f2, nm_q, bd1_some, bd2_some, bd3_some, bd4_some, bd5_some, bd6_some, bd7_some, bd8_some, bd9_some, bd10_some, bd11_some, bd1_ite, ↓reduceIte, gd_nI, gb_nI, gb_ite, li, liL, nI_add, nI_1, pk_sub, pk_mul, pk_div, nI_clamp, nI_eq, nI_leI, nI_ltI, nI_eqn, nI_neq, nI_nn, nI_len, nI_ltn, ngI_le, ngI_lt, nng, sm10, sm8, shr_n, shl_n, and_1, fa_or, leT, leF, ltT, ltF, eqT, eqF, a2]
  · have c1 : ¬ sIs s = 0 := by rw [a1]; decide
    rcases pk_ix p2 (n := n) (by omega) with h | h | ⟨j, h, rfl⟩
    · refine Or.inl ⟨2, by omega, by omega, ?_, ?_⟩
      · rw [fX4_flawAt, if_neg c1, if_pos rfl, if_pos h]; rfl
      · have e : fX6_in p2.toInt64 (lN 0) (nI n - nI 1).toInt64 = some (nI 0) := in_no (lo := 0) (Or.inl h)
        rw [fX6_lay, show (0 : Int32) = nI 0 from rfl, f2]
        simp (disch := omega) only [bd1_some, nm_q, gd_nI, nI_clamp, a3, a5, li, liL, e, leT, leF, ltT, ltF, eqT, eqF, nI_eq, nI_eqn, if_false, if_true]
    · refine Or.inl ⟨2, by omega, by omega, ?_, ?_⟩
      · rw [fX4_flawAt, if_neg c1, if_pos rfl, a4, if_neg (fun q => (fa_of_lt q).2.1 h)]
        by_cases c : p2 < 0
        · rw [if_pos c]; rfl
        · rw [if_neg c]; rfl
      · have e : fX6_in p2.toInt64 (lN 0) (nI n - nI 1).toInt64 = some (nI 0) := in_no (lo := 0) (Or.inr (by
          rw [fa_le, nI_toInt (by omega)] at h
          rw [fa_lt, pk_sub_toInt (by omega) (by omega)]
          omega))
        rw [fX6_lay, show (0 : Int32) = nI 0 from rfl, f2]
        simp (disch := omega) only [bd1_some, nm_q, gd_nI, nI_clamp, a3, a5, li, liL, e, leT, leF, ltT, ltF, eqT, eqF, nI_eq, nI_eqn, if_false, if_true]
    · refine Or.inr ⟨sCe' s (upd (sCe s) j (lanV q p3)), upd cells (40 * k + j) (lanV q p3), ?_, c_put p3 a2 hq (by omega), ?_, ⟨Or.inr ⟨a1, ⟨q, hq, a2, a3⟩, n, hn, a4, a5⟩, fun i hi => ?_⟩, fun i hi => pk_un (by omega)⟩
      · rw [fX4_flawAt, if_neg c1, if_pos rfl, a4, if_neg (nI_pos (show j < 2 ^ 31 by omega)), if_pos (nI_lt h (by omega))]; rfl
      · have e : fX6_in (nI j).toInt64 (lN 0) (lN (n - 1)) = some (nI 1) := by rw [in_nI (by omega) (by omega) (by omega), if_pos (by omega)]
        have e2 : (nI (n - 1)).toInt64 = lN (n - 1) := nI_l (by omega)
        have hq3 : q = 0 ∨ q = 1 ∨ q = 2 := by omega
        rcases hq3 with rfl | rfl | rfl
        · simp (disch := omega) only [fX6_lay, f2, nm_q, bd1_some, bd2_some, bd3_some, bd4_some, bd5_some, bd6_some, bd7_some, bd8_some, bd9_some, bd10_some, bd11_some, bd1_ite, ↓reduceIte, gd_nI, gb_nI, gb_ite, li, liL, nI_add, nI_1, pk_sub, pk_mul, pk_div, nI_clamp, nI_eq, nI_leI, nI_ltI, nI_eqn, nI_neq, nI_nn, nI_len, nI_ltn, ngI_le, ngI_lt, nng, sm10, sm8, shr_n, shl_n, and_1, fa_or, leT, leF, ltT, ltF, eqT, eqF, a3, a5, e2, e]; rfl
        · simp (disch := omega) only [fX6_lay, f2, nm_q, bd1_some, bd2_some, bd3_some, bd4_some, bd5_some, bd6_some, bd7_some, bd8_some, bd9_some, bd10_some, bd11_some, bd1_ite, ↓reduceIte, gd_nI, gb_nI, gb_ite, li, liL, nI_add, nI_1, pk_sub, pk_mul, pk_div, nI_clamp, nI_eq, nI_leI, nI_ltI, nI_eqn, nI_neq, nI_nn, nI_len, nI_ltn, ngI_le, ngI_lt, nng, sm10, sm8, shr_n, shl_n, and_1, fa_or, leT, leF, ltT, ltF, eqT, eqF, a3, a5, e2, e]; rfl
        · simp (disch := omega) only [fX6_lay, f2, nm_q, bd1_some, bd2_some, bd3_some, bd4_some, bd5_some, bd6_some, bd7_some, bd8_some, bd9_some, bd10_some, bd11_some, bd1_ite, ↓reduceIte, gd_nI, gb_nI, gb_ite, li, liL, nI_add, nI_1, pk_sub, pk_mul, pk_div, nI_clamp, nI_eq, nI_leI, nI_ltI, nI_eqn, nI_neq, nI_nn, nI_len, nI_ltn, ngI_le, ngI_lt, nng, sm10, sm8, shr_n, shl_n, and_1, fa_or, leT, leF, ltT, ltF, eqT, eqF, a3, a5, e2, e]; rfl
      · show upd cells _ _ _ = upd (sCe s) j (lanV q p3) i
        by_cases c : i = j
        · rw [c, pk_us, pk_us]
        · rw [pk_un c, pk_un (by omega)]; exact r2 i hi
theorem ng_sub (a b : Nat) : -nI a - nI b = -nI (a + b) := by
  rw [← nI_add, Int32.neg_add, Int32.sub_eq_add_neg]
theorem ev_lay (v : VT) (rd : RT) (dr : CT) (nw : CT) (tr : CT) (da : DT) (i0 : CT) (i1 : CT) (s0 : ST) (s1 : ST) (s2 : ST) (s3 : ST) (st : AI) (now : AI) (isKept : AI) (hearers : Int32) (draft : AI) (dHearers : Int32) (dWalls : Int32) (toldWinds : Int32) (tape : AI) (taped : Int32) (pos : Int32) (frm : Int32) (sort : Int32) (value : Int32) (fault : Int32) (wrongAt : Int32) (landed : AI) (landedIn : AI) (stepped : AI) (isThere : AI) (isAt : AI) (isNext : AI) (landSum : Int64) (heardSum : Int64) (allWays : Int64) (ways : AI) (drawn : AI) (lanes : AI) (sizes : AI) (cells : AI) (torn : Int32) (before : AI) (hR : Rel v rd nw i0 i1 s0 s1 s2 s3 st isKept hearers tape taped fault lanes sizes cells torn) (p1 : Int32) (p2 : Int32) (p3 : Int32) : ∃ (res : Int32) (s0_x : ST) (s1_x : ST) (s2_x : ST) (s3_x : ST) (cells_x : AI), fX5_lay p1 p2 p3 v s0 s1 s2 s3 = some (res, s0_x, s1_x, s2_x, s3_x) ∧ fX6_lay p1 p2 p3 lanes sizes cells = some (res, cells_x) ∧ (Rel v rd nw i0 i1 s0_x s1_x s2_x s3_x st isKept hearers tape taped fault lanes sizes cells_x torn) := by
  have hR0 := hR
  obtain ⟨⟨K, hK, hc, hm⟩, r0, r1, rt, rf, q0, q1, q2, q3, rl⟩ := hR
  rcases sheetOf p1 (nI 0) with ⟨k, q, hk, hq, rfl, _, f2⟩ | ⟨h1, f2⟩ | ⟨k, hk, rfl, h1, f2⟩
  · have hk4 : k = 0 ∨ k = 1 ∨ k = 2 ∨ k = 3 := by omega
    have ot := fun (k2 : Nat) (s : ST) (cells' : AI) (h : k2 ≠ k) (hc : ∀ j, (j < 40 * k ∨ 40 * k + 40 ≤ j) → cells' j = cells j) (r : RS k2 s lanes sizes cells) => RS_other (lanes' := lanes) (sizes' := sizes) (cells' := cells') h (fun j hj => rfl) (fun j hj => rfl) hc r
    rcases hk4 with rfl | rfl | rfl | rfl
    · rcases lay_one (k := 0) (by omega) q0 p2 p3 with ⟨b, b1, b2, e1, e2⟩ | ⟨s', c', e1, e2, e3, e4, e5⟩
      · refine ⟨-nI (10 + b), s0, s1, s2, s3, cells, ?_, e2, hR0⟩
        simp (disch := omega) only [fX5_lay, nm_q, bd1_some, bd2_some, bd3_some, bd4_some, bd5_some, bd6_some, bd7_some, bd8_some, bd9_some, bd10_some, bd11_some, bd1_ite, ↓reduceIte, gd_nI, gb_nI, gb_ite, li, liL, nI_add, nI_1, pk_sub, pk_mul, pk_div, nI_clamp, nI_eq, nI_leI, nI_ltI, nI_eqn, nI_neq, nI_nn, nI_len, nI_ltn, ngI_le, ngI_lt, nng, sm10, sm8, shr_n, shl_n, and_1, fa_or, leT, leF, ltT, ltF, eqT, eqF, sel4_0, e1, ng_sub]
      · refine ⟨nI 1, s', s1, s2, s3, c', ?_, e3, ⟨K, hK, hc, hm⟩, r0, r1, rt, rf, e4, ot 1 s1 c' (by omega) e5 q1, ot 2 s2 c' (by omega) e5 q2, ot 3 s3 c' (by omega) e5 q3, rl⟩
        simp (disch := omega) only [fX5_lay, nm_q, bd1_some, bd2_some, bd3_some, bd4_some, bd5_some, bd6_some, bd7_some, bd8_some, bd9_some, bd10_some, bd11_some, bd1_ite, ↓reduceIte, gd_nI, gb_nI, gb_ite, li, liL, nI_add, nI_1, pk_sub, pk_mul, pk_div, nI_clamp, nI_eq, nI_leI, nI_ltI, nI_eqn, nI_neq, nI_nn, nI_len, nI_ltn, ngI_le, ngI_lt, nng, sm10, sm8, shr_n, shl_n, and_1, fa_or, leT, leF, ltT, ltF, eqT, eqF, sel4_0, e1, e2]
    · rcases lay_one (k := 1) (by omega) q1 p2 p3 with ⟨b, b1, b2, e1, e2⟩ | ⟨s', c', e1, e2, e3, e4, e5⟩
      · refine ⟨-nI (10 + b), s0, s1, s2, s3, cells, ?_, e2, hR0⟩
        simp (disch := omega) only [fX5_lay, nm_q, bd1_some, bd2_some, bd3_some, bd4_some, bd5_some, bd6_some, bd7_some, bd8_some, bd9_some, bd10_some, bd11_some, bd1_ite, ↓reduceIte, gd_nI, gb_nI, gb_ite, li, liL, nI_add, nI_1, pk_sub, pk_mul, pk_div, nI_clamp, nI_eq, nI_leI, nI_ltI, nI_eqn, nI_neq, nI_nn, nI_len, nI_ltn, ngI_le, ngI_lt, nng, sm10, sm8, shr_n, shl_n, and_1, fa_or, leT, leF, ltT, ltF, eqT, eqF, sel4_1, e1, ng_sub]
      · refine ⟨nI 1, s0, s', s2, s3, c', ?_, e3, ⟨K, hK, hc, hm⟩, r0, r1, rt, rf, ot 0 s0 c' (by omega) e5 q0, e4, ot 2 s2 c' (by omega) e5 q2, ot 3 s3 c' (by omega) e5 q3, rl⟩
        simp (disch := omega) only [fX5_lay, nm_q, bd1_some, bd2_some, bd3_some, bd4_some, bd5_some, bd6_some, bd7_some, bd8_some, bd9_some, bd10_some, bd11_some, bd1_ite, ↓reduceIte, gd_nI, gb_nI, gb_ite, li, liL, nI_add, nI_1, pk_sub, pk_mul, pk_div, nI_clamp, nI_eq, nI_leI, nI_ltI, nI_eqn, nI_neq, nI_nn, nI_len, nI_ltn, ngI_le, ngI_lt, nng, sm10, sm8, shr_n, shl_n, and_1, fa_or, leT, leF, ltT, ltF, eqT, eqF, sel4_1, e1, e2]
    · rcases lay_one (k := 2) (by omega) q2 p2 p3 with ⟨b, b1, b2, e1, e2⟩ | ⟨s', c', e1, e2, e3, e4, e5⟩
      · refine ⟨-nI (10 + b), s0, s1, s2, s3, cells, ?_, e2, hR0⟩
        simp (disch := omega) only [fX5_lay, nm_q, bd1_some, bd2_some, bd3_some, bd4_some, bd5_some, bd6_some, bd7_some, bd8_some, bd9_some, bd10_some, bd11_some, bd1_ite, ↓reduceIte, gd_nI, gb_nI, gb_ite, li, liL, nI_add, nI_1, pk_sub, pk_mul, pk_div, nI_clamp, nI_eq, nI_leI, nI_ltI, nI_eqn, nI_neq, nI_nn, nI_len, nI_ltn, ngI_le, ngI_lt, nng, sm10, sm8, shr_n, shl_n, and_1, fa_or, leT, leF, ltT, ltF, eqT, eqF, sel4_2, e1, ng_sub]
      · refine ⟨nI 1, s0, s1, s', s3, c', ?_, e3, ⟨K, hK, hc, hm⟩, r0, r1, rt, rf, ot 0 s0 c' (by omega) e5 q0, ot 1 s1 c' (by omega) e5 q1, e4, ot 3 s3 c' (by omega) e5 q3, rl⟩
        simp (disch := omega) only [fX5_lay, nm_q, bd1_some, bd2_some, bd3_some, bd4_some, bd5_some, bd6_some, bd7_some, bd8_some, bd9_some, bd10_some, bd11_some, bd1_ite, ↓reduceIte, gd_nI, gb_nI, gb_ite, li, liL, nI_add, nI_1, pk_sub, pk_mul, pk_div, nI_clamp, nI_eq, nI_leI, nI_ltI, nI_eqn, nI_neq, nI_nn, nI_len, nI_ltn, ngI_le, ngI_lt, nng, sm10, sm8, shr_n, shl_n, and_1, fa_or, leT, leF, ltT, ltF, eqT, eqF, sel4_2, e1, e2]
    · rcases lay_one (k := 3) (by omega) q3 p2 p3 with ⟨b, b1, b2, e1, e2⟩ | ⟨s', c', e1, e2, e3, e4, e5⟩
      · refine ⟨-nI (10 + b), s0, s1, s2, s3, cells, ?_, e2, hR0⟩
        simp (disch := omega) only [fX5_lay, nm_q, bd1_some, bd2_some, bd3_some, bd4_some, bd5_some, bd6_some, bd7_some, bd8_some, bd9_some, bd10_some, bd11_some, bd1_ite, ↓reduceIte, gd_nI, gb_nI, gb_ite, li, liL, nI_add, nI_1, pk_sub, pk_mul, pk_div, nI_clamp, nI_eq, nI_leI, nI_ltI, nI_eqn, nI_neq, nI_nn, nI_len, nI_ltn, ngI_le, ngI_lt, nng, sm10, sm8, shr_n, shl_n, and_1, fa_or, leT, leF, ltT, ltF, eqT, eqF, sel4_3, e1, ng_sub]
      · refine ⟨nI 1, s0, s1, s2, s', c', ?_, e3, ⟨K, hK, hc, hm⟩, r0, r1, rt, rf, ot 0 s0 c' (by omega) e5 q0, ot 1 s1 c' (by omega) e5 q1, ot 2 s2 c' (by omega) e5 q2, e4, rl⟩
        simp (disch := omega) only [fX5_lay, nm_q, bd1_some, bd2_some, bd3_some, bd4_some, bd5_some, bd6_some, bd7_some, bd8_some, bd9_some, bd10_some, bd11_some, bd1_ite, ↓reduceIte, gd_nI, gb_nI, gb_ite, li, liL, nI_add, nI_1, pk_sub, pk_mul, pk_div, nI_clamp, nI_eq, nI_leI, nI_ltI, nI_eqn, nI_neq, nI_nn, nI_len, nI_ltn, ngI_le, ngI_lt, nng, sm10, sm8, shr_n, shl_n, and_1, fa_or, leT, leF, ltT, ltF, eqT, eqF, sel4_3, e1, e2]
  · refine ⟨-nI 1, s0, s1, s2, s3, cells, ?_, ?_, hR0⟩
    · rw [fX5_lay]
      by_cases c : p1 < 0
      · rw [if_pos c]; rfl
      · rw [if_neg c, if_neg]
        · rfl
        · rcases h1 with h1 | h1
          · exact absurd h1 c
          · rw [fa_lt, show (4 : Int32) = nI 4 from rfl, nI_toInt (by omega)]
            rw [fa_lt, nI_toInt (by omega)] at h1
            omega
    · simp (disch := omega) only [fX6_lay, nm_q, bd1_some, bd2_some, bd3_some, bd4_some, bd5_some, bd6_some, bd7_some, bd8_some, bd9_some, bd10_some, bd11_some, bd1_ite, ↓reduceIte, gd_nI, gb_nI, gb_ite, li, liL, nI_add, nI_1, pk_sub, pk_mul, pk_div, nI_clamp, nI_eq, nI_leI, nI_ltI, nI_eqn, nI_neq, nI_nn, nI_len, nI_ltn, ngI_le, ngI_lt, nng, sm10, sm8, shr_n, shl_n, and_1, fa_or, leT, leF, ltT, ltF, eqT, eqF, f2]
  · exfalso
    rcases h1 with h1 | h1
    · exact absurd h1 (by decide)
    · exact absurd h1 (by decide)
