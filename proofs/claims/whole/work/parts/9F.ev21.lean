-- text
theorem lock2 {σ τ ρ υ : Type} (L : Nat → σ → ρ) (M : Nat → τ → υ) (I : Nat → σ → τ → Prop) (P : ρ → υ → Prop) (N : Nat) (hs : ∀ i s t n m, i < N → 0 < n → 0 < m → I i s t → (∀ s' t', I (i + 1) s' t' → P (L n s') (M m t')) → P (L (n + 1) s) (M (m + 1) t)) (he : ∀ s t n m, I N s t → P (L (n + 1) s) (M (m + 1) t)) : ∀ c i n m s t, i + c = N → c < n → c < m → I i s t → P (L n s) (M m t) := by
  intro c
  induction c with
  | zero =>
    intro i n m s t hi hn hm h
    obtain ⟨n, rfl⟩ : ∃ k, n = k + 1 := ⟨n - 1, by omega⟩
    obtain ⟨m, rfl⟩ : ∃ k, m = k + 1 := ⟨m - 1, by omega⟩
    obtain rfl : i = N := by omega
    exact he s t n m h
  | succ c ih =>
    intro i n m s t hi hn hm h
    obtain ⟨n, rfl⟩ : ∃ k, n = k + 1 := ⟨n - 1, by omega⟩
    obtain ⟨m, rfl⟩ : ∃ k, m = k + 1 := ⟨m - 1, by omega⟩
    exact hs i s t n m (by omega) (by omega) (by omega) h (fun s' t' h' => ih (i + 1) n m s' t' (by omega) (by omega) (by omega) h')
/-- the coast ahead of all lines -/
def K00 : KT := (0, fun _ => 4, 0, fun _ _ => 0, 0, fun _ => 0, 0, fun _ => 0, fun _ => 0)
theorem WF_00 : WFk K00 := by
  refine ⟨by decide, by rw [show kW K00 = 0 from rfl, pc_0]; omega, fun _ _ => Nat.le_refl 4, by decide, fun s hs => absurd hs (Nat.not_lt_zero s), by decide, fun s hs => absurd hs (Nat.not_lt_zero s), by decide, fun s hs => absurd hs (Nat.not_lt_zero s)⟩
theorem c_clear (c : CT) : ∃ c', fX0_clear c = some c' ∧ RCc K00 c' := by
  obtain ⟨F, hF⟩ : ∃ F, F = 4096 := ⟨_, rfl⟩
  rw [fX0_clear, ← hF, nm_q, nm_q, nm_q, nm_q]
  refine solo (fun n (t : Int32 × CT) => fX0_clear_L22 (fun v5 c_6 => some c_6) n t.1 t.2) (fun i t => t.1 = nI i ∧ cW t.2 = 0 ∧ cSa t.2 = nI 0 ∧ cHe t.2 = nI 0 ∧ cSe t.2 = nI 0 ∧ ∀ h, h < i → cWi t.2 h = nI 4) (fun x => ∃ c', x = some c' ∧ RCc K00 c') 10 ?_ ?_ 10 0 F (nI 0, _) (by omega) (by omega) ⟨rfl, rfl, rfl, rfl, rfl, fun h hh => by omega⟩
  · rintro i ⟨x1, c⟩ n hi ⟨e1, e2, e3, e4, e5, e6⟩ ih
    simp only at e1 e2 e3 e4 e5 e6 ⊢
    subst e1
    rw [fX0_clear_L22]
    simp (disch := omega) only [nm_q, bd1_some, bd2_some, bd3_some, bd4_some, bd5_some, bd6_some, bd7_some, bd8_some, bd9_some, bd10_some, bd11_some, bd1_ite, ↓reduceIte, gd_nI, gb_nI, gb_ite, li, liL, nI_add, nI_1, pk_sub, pk_mul, pk_div, nI_clamp, nI_eq, nI_leI, nI_ltI, nI_eqn, nI_neq, nI_nn, nI_len, nI_ltn, ngI_le, ngI_lt, nng, sm10, sm8, shr_n, shl_n, and_1, fa_or, leT, leF, ltT, ltF, eqT, eqF]
    refine ih (nI (i + 1), cWi' c (upd (cWi c) i (nI 4))) ⟨rfl, e2, e3, e4, e5, fun h hh => ?_⟩
    show upd (cWi c) i (nI 4) h = nI 4
    by_cases d : h = i
    · rw [d, pk_us]
    · rw [pk_un d]; exact e6 h (by omega)
  · rintro ⟨x1, c⟩ n ⟨e1, e2, e3, e4, e5, e6⟩
    simp only at e1 e2 e3 e4 e5 e6 ⊢
    subst e1
    rw [fX0_clear_L22]
    simp (disch := omega) only [nm_q, bd1_some, bd2_some, bd3_some, bd4_some, bd5_some, bd6_some, bd7_some, bd8_some, bd9_some, bd10_some, bd11_some, bd1_ite, ↓reduceIte, gd_nI, gb_nI, gb_ite, li, liL, nI_add, nI_1, pk_sub, pk_mul, pk_div, nI_clamp, nI_eq, nI_leI, nI_ltI, nI_eqn, nI_neq, nI_nn, nI_len, nI_ltn, ngI_le, ngI_lt, nng, sm10, sm8, shr_n, shl_n, and_1, fa_or, leT, leF, ltT, ltF, eqT, eqF]
    exact ⟨c, rfl, by rw [e2]; rfl, e6, e3, fun s hs => absurd hs (Nat.not_lt_zero s), e4, fun s hs => absurd hs (Nat.not_lt_zero s), e5, fun s hs => absurd hs (Nat.not_lt_zero s), fun s hs => absurd hs (Nat.not_lt_zero s)⟩
theorem m_first (draft : AI) (a b c : Int32) : ∃ d, fX6_firstDraft draft a b c = some (d, 0, 0, 0) ∧ RCm K00 d 0 (nI 0) := by
  obtain ⟨F, hF⟩ : ∃ F, F = 4096 := ⟨_, rfl⟩
  rw [fX6_firstDraft, ← hF]
  have z : ∀ C : Int32 → AI → Option (AI × Int32 × Int32 × Int32), fX6_firstDraft_L2 C F 0 draft = C (nI 61) (fa_fill (fun _ => nI 0) draft 61) := by
    intro C
    refine solo (fun n (t : Int32 × AI) => fX6_firstDraft_L2 C n t.1 t.2) (fun i t => t = (nI i, fa_fill (fun _ => nI 0) draft i)) (fun x => x = C (nI 61) (fa_fill (fun _ => nI 0) draft 61)) 61 ?_ ?_ 61 0 F (nI 0, draft) (by omega) (by omega) (by rw [fa_fill_0])
    · rintro i t n hi rfl ih
      have := ih _ rfl
      rw [← fa_fill_succ] at this
      show fX6_firstDraft_L2 C (n + 1) (nI i) (fa_fill (fun _ => nI 0) draft i) = _
      rw [fX6_firstDraft_L2]
      simp (disch := omega) only [nm_q, bd1_some, bd2_some, bd3_some, bd4_some, bd5_some, bd6_some, bd7_some, bd8_some, bd9_some, bd10_some, bd11_some, bd1_ite, ↓reduceIte, gd_nI, gb_nI, gb_ite, li, liL, nI_add, nI_1, pk_sub, pk_mul, pk_div, nI_clamp, nI_eq, nI_leI, nI_ltI, nI_eqn, nI_neq, nI_nn, nI_len, nI_ltn, ngI_le, ngI_lt, nng, sm10, sm8, shr_n, shl_n, and_1, fa_or, leT, leF, ltT, ltF, eqT, eqF]
      exact this
    · rintro t n rfl
      show fX6_firstDraft_L2 C (n + 1) (nI 61) (fa_fill (fun _ => nI 0) draft 61) = _
      rw [fX6_firstDraft_L2]
      simp (disch := omega) only [nm_q, bd1_some, bd2_some, bd3_some, bd4_some, bd5_some, bd6_some, bd7_some, bd8_some, bd9_some, bd10_some, bd11_some, bd1_ite, ↓reduceIte, gd_nI, gb_nI, gb_ite, li, liL, nI_add, nI_1, pk_sub, pk_mul, pk_div, nI_clamp, nI_eq, nI_leI, nI_ltI, nI_eqn, nI_neq, nI_nn, nI_len, nI_ltn, ngI_le, ngI_lt, nng, sm10, sm8, shr_n, shl_n, and_1, fa_or, leT, leF, ltT, ltF, eqT, eqF]
  rw [z]
  refine solo (fun n (t : Int32 × AI) => fX6_firstDraft_L23 (fun v8 draft_9 => some (draft_9, 0, 0, 0)) n t.1 t.2) (fun i t => t.1 = nI i ∧ (∀ h, h < i → t.2 (8 + h) = nI 4) ∧ ∀ j, j < 61 → (j < 8 ∨ 18 ≤ j) → t.2 j = nI 0) (fun x => ∃ d, x = some (d, 0, 0, 0) ∧ RCm K00 d 0 (nI 0)) 10 ?_ ?_ 10 0 F (nI 0, fa_fill (fun _ => nI 0) draft 61) (by omega) (by omega) ⟨rfl, fun h hh => by omega, fun j hj _ => fa_fill_in (f := fun _ => nI 0) hj⟩
  · rintro i ⟨x1, d⟩ n hi ⟨e1, e2, e3⟩ ih
    simp only at e1 e2 e3 ⊢
    subst e1
    rw [fX6_firstDraft_L23]
    simp (disch := omega) only [nm_q, bd1_some, bd2_some, bd3_some, bd4_some, bd5_some, bd6_some, bd7_some, bd8_some, bd9_some, bd10_some, bd11_some, bd1_ite, ↓reduceIte, gd_nI, gb_nI, gb_ite, li, liL, nI_add, nI_1, pk_sub, pk_mul, pk_div, nI_clamp, nI_eq, nI_leI, nI_ltI, nI_eqn, nI_neq, nI_nn, nI_len, nI_ltn, ngI_le, ngI_lt, nng, sm10, sm8, shr_n, shl_n, and_1, fa_or, leT, leF, ltT, ltF, eqT, eqF]
    refine ih (nI (i + 1), upd d (8 + i) (nI 4)) ⟨rfl, fun h hh => ?_, fun j hj hj2 => ?_⟩
    · show upd d (8 + i) (nI 4) (8 + h) = nI 4
      by_cases c : h = i
      · rw [c, pk_us]
      · rw [pk_un (by omega)]; exact e2 h (by omega)
    · show upd d (8 + i) (nI 4) j = nI 0
      rw [pk_un (by omega)]; exact e3 j hj hj2
  · rintro ⟨x1, d⟩ n ⟨e1, e2, e3⟩
    simp only at e1 e2 e3 ⊢
    subst e1
    rw [fX6_firstDraft_L23]
    simp (disch := omega) only [nm_q, bd1_some, bd2_some, bd3_some, bd4_some, bd5_some, bd6_some, bd7_some, bd8_some, bd9_some, bd10_some, bd11_some, bd1_ite, ↓reduceIte, gd_nI, gb_nI, gb_ite, li, liL, nI_add, nI_1, pk_sub, pk_mul, pk_div, nI_clamp, nI_eq, nI_leI, nI_ltI, nI_eqn, nI_neq, nI_nn, nI_len, nI_ltn, ngI_le, ngI_lt, nng, sm10, sm8, shr_n, shl_n, and_1, fa_or, leT, leF, ltT, ltF, eqT, eqF]
    refine ⟨d, rfl, ?_⟩
    unfold RCm
    simp only [Nat.zero_add]
    refine ⟨fun y hy => ?_, fun y hy => e2 y hy, e3 43 (by omega) (by omega), fun u hu => absurd hu (Nat.not_lt_zero u), rfl, fun y hy => absurd hy (Nat.not_lt_zero y), e3 48 (by omega) (by omega), fun y hy => absurd hy (Nat.not_lt_zero y), fun y hy => absurd hy (Nat.not_lt_zero y)⟩
    rw [e3 y (by omega) (by omega), show kW K00 = 0 from rfl, Nat.zero_div]
abbrev XB : Type := Option (Int32 × AI × AI × Int32 × AI × Int32 × Int32 × Int32 × Int32 × Int32 × Int32 × Int32 × Int32 × Int32 × Int32)
/-- what all lines bring, both sides -/
def TX (B : Int32 → AI → Int32 → Int32 → Int32 → Int32 → Int32 → Int32 → Int32 → Int32 → Int32 → XB) (x : Option (Int32 × RT × CT)) (y : XB) : Prop :=
  (∃ i r dr K draft dH dW tW pos frm sort value wrongAt, x = some (nI i, r, dr) ∧ rFl r = nI 0 ∧ y = B (nI i) draft dH dW tW pos frm sort value (nI 0) wrongAt ∧ DK2 K dr draft dH dW) ∨ (∃ i i' r dr f w draft dH dW tW pos frm sort value, x = some (nI i, r, dr) ∧ rFl r = nI f ∧ rPl r = nI w ∧ 1 ≤ f ∧ f ≤ 5 ∧ y = B i' draft dH dW tW pos frm sort value (nI f) (nI w))
theorem lines_b {n : Nat} {t : Nat → Nat} {tape : AI} (hb : BT n t tape) (B : Int32 → AI → Int32 → Int32 → Int32 → Int32 → Int32 → Int32 → Int32 → Int32 → Int32 → XB) {r : RT} {dr : CT} {K : KT} {draft : AI} {dH dW : Int32} {pos frm sort value fault wrongAt : Int32} (h : Cls n t 0 r) (hS : Sync n t 0 pos frm sort value fault wrongAt) (hD : DK2 K dr draft dH dW) (hth : rTh r = nI 0) (F : Nat) (hF : 161 < F) : TX B (fX2_readLines_L29 (fun v7 r_8 dr_9 => some (v7, r_8, dr_9)) F 0 r dr) (fX6_text_L20 tape (nI n) B F 0 draft dH dW 0 pos frm sort value fault wrongAt) := by
  have hn := hb.1
  refine lock2 (fun m (x : Int32 × RT × CT) => fX2_readLines_L29 (fun v7 r_8 dr_9 => some (v7, r_8, dr_9)) m x.1 x.2.1 x.2.2) (fun m (y : Int32 × AI × Int32 × Int32 × Int32 × Int32 × Int32 × Int32 × Int32 × Int32 × Int32) => fX6_text_L20 tape (nI n) B m y.1 y.2.1 y.2.2.1 y.2.2.2.1 y.2.2.2.2.1 y.2.2.2.2.2.1 y.2.2.2.2.2.2.1 y.2.2.2.2.2.2.2.1 y.2.2.2.2.2.2.2.2.1 y.2.2.2.2.2.2.2.2.2.1 y.2.2.2.2.2.2.2.2.2.2) (fun i x y => x.1 = nI i ∧ y.1 = nI i ∧ ∃ a K th, i ≤ a ∧ a ≤ n ∧ Cls n t a x.2.1 ∧ rTh x.2.1 = nI th ∧ th < 1024 ∧ Sync n t a y.2.2.2.2.2.1 y.2.2.2.2.2.2.1 y.2.2.2.2.2.2.2.1 y.2.2.2.2.2.2.2.2.1 y.2.2.2.2.2.2.2.2.2.1 y.2.2.2.2.2.2.2.2.2.2 ∧ DK2 K x.2.2 y.2.1 y.2.2.1 y.2.2.2.1 ∧ y.2.2.2.2.1 = nI th) (TX B) 161 ?_ ?_ 161 0 F F (0, r, dr) (0, draft, dH, dW, 0, pos, frm, sort, value, fault, wrongAt) (by omega) hF hF ⟨rfl, rfl, 0, K, 0, by omega, by omega, h, hth, by omega, hS, hD, rfl⟩
  · rintro i ⟨x1, r, dr⟩ ⟨y1, draft, dH, dW, tW, pos, frm, sort, value, fault, wrongAt⟩ m m' hi hm hm' ⟨e1, e2, a, K, th, e3, e4, e5, e6, e7, e8, e9, e10⟩ ih
    simp only at e1 e2 e5 e6 e8 e9 e10 ⊢
    subst e1 e2 e10
    have hE := tkE_b (t := t) e4
    have hSb := tkS_b (t := t) e4
    have hk4 := tkK_le n t a
    obtain ⟨r', q1, q2, q3⟩ := c_next e5 e4
    rw [fX2_readLines_L29, if_neg (show ¬ (160 : Int32) < nI i by rw [show (160 : Int32) = nI 160 from rfl, fa_lt, nI_toInt (by omega), nI_toInt (by omega)]; omega), fX6_text_L20]
    rcases q3 with ⟨k, c1, c2, c3, c4⟩ | ⟨k, c1, c2, c3⟩
    · rcases e8 with g | ⟨g, _⟩
      · obtain ⟨_, g1, g2, g3, g4, g5⟩ := id g
        rw [c1, bd2_some, if_neg (show ¬ nI 1 = 0 from n10), c3, g5, if_pos (show nI 0 = 0 from rfl)]
        by_cases k0 : tkK n t a = 0
        · rw [if_pos (show nI (tkK n t a) = 0 by rw [k0]; rfl), g3, if_pos (show nI (tkK n t a) = 0 by rw [k0]; rfl)]
          exact Or.inl ⟨i, r', dr, K, draft, dH, dW, nI th, pos, frm, _, value, wrongAt, rfl, c2.2.2.2, rfl, e9⟩
        · have ne : ¬ nI (tkK n t a) = 0 := by rw [show (0 : Int32) = nI 0 from rfl, nI_eq (by omega) (by omega)]; exact k0
          have ne2 : ¬ sort = 0 := by rw [g3]; exact ne
          rw [if_neg ne, if_neg ne2]
          have lb := line_b (wrongAt := wrongAt) hb e4 c2 q2 c3 g e9 (q1.trans e6) e7
          rw [g5] at lb
          rcases lb with ⟨r2, dr2, K2, a2, draft2, dH2, dW2, th2, pos2, frm2, sort2, value2, fault2, wrongAt2, x1, x2, x3, x4, x5, x6, x7, x8, x9⟩ | ⟨r2, dr2, f, w, draft2, dH2, dW2, tW2, pos2, frm2, sort2, value2, x1, x2, x3, x4, x5, x6⟩
          · rw [x1, bd3_some, if_neg (show ¬ nI 1 = 0 from n10), nm_q, nI_1, x2, bd10_some, nm_q]
            exact ih (nI (i + 1), r2, dr2) (nI (i + 1), draft2, dH2, dW2, nI th2, pos2, frm2, sort2, value2, fault2, wrongAt2) ⟨rfl, rfl, a2, K2, th2, by have := hE.2.2 k0; omega, x4, x5, x8, x9, x6, x7, rfl⟩
          · obtain ⟨m'', rfl⟩ : ∃ k, m' = k + 1 := ⟨m' - 1, by omega⟩
            rw [x1, bd3_some, if_pos (show nI 0 = 0 from rfl), x2, bd10_some, nm_q, fX6_text_L20, if_neg (nz x3 x4)]
            exact Or.inr ⟨i, _, r2, dr2, f, w, draft2, dH2, dW2, tW2, pos2, frm2, sort2, value2, rfl, x5, x6, x3, x4, rfl⟩
      · exact absurd g k
    · rcases e8 with ⟨g, _⟩ | ⟨_, b1, b2, _, b3, b4⟩
      · exact absurd k g
      · subst b3 b4
        rw [c1, bd2_some, if_pos (show nI 0 = 0 from rfl), if_neg (nz b1 b2)]
        exact Or.inr ⟨i, _, r', dr, 1, tkS n t a, draft, dH, dW, nI th, pos, frm, sort, value, rfl, c2, c3, by omega, by omega, rfl⟩
  · rintro ⟨x1, r, dr⟩ ⟨y1, draft, dH, dW, tW, pos, frm, sort, value, fault, wrongAt⟩ m m' ⟨e1, e2, a, K, th, e3, e4, _⟩
    omega
theorem m_keepD (st draft isKept : AI) (dH hearers : Int32) : fX6_keepDraft st isKept hearers draft dH = some (fa_fill draft st 61, upd (upd isKept 0 0) 1 0, dH) := by
  obtain ⟨F, hF⟩ : ∃ F, F = 4096 := ⟨_, rfl⟩
  rw [fX6_keepDraft, ← hF]
  refine solo (fun n (t : Int32 × AI) => fX6_keepDraft_L2 draft (fun v1 st_2 => nm (upd isKept 0 (vp_nar .boolean 0)) fun isKept_10 => nm (upd isKept_10 1 (vp_nar .boolean 0)) fun isKept_11 => some (st_2, isKept_11, dH)) n t.1 t.2) (fun i t => t = (nI i, fa_fill draft st i)) (fun x => x = some (fa_fill draft st 61, upd (upd isKept 0 0) 1 0, dH)) 61 ?_ ?_ 61 0 F (nI 0, st) (by omega) (by omega) (by rw [fa_fill_0])
  · rintro i t n hi rfl ih
    have := ih (nI (i + 1), fa_fill draft st (i + 1)) rfl
    rw [← fa_fill_succ] at this
    show fX6_keepDraft_L2 draft _ (n + 1) (nI i) (fa_fill draft st i) = _
    rw [fX6_keepDraft_L2, if_neg (show ¬ (61 : Int32) ≤ nI i from nI_ge (b := 61) hi (by omega)), gd_nI _ hi (by omega), nm_q, gd_nI _ (by omega) (by omega), nm_q, nm_q, nI_clamp (by omega), nI_1]
    exact this
  · rintro t n rfl
    show fX6_keepDraft_L2 draft _ (n + 1) (nI 61) (fa_fill draft st 61) = _
    rw [fX6_keepDraft_L2, if_pos (by decide), nm_q, nm_q, nar0]
theorem c_unkeep (v : VT) (C : Int32 → VT → Option (Int32 × VT × RT × CT × CT)) (F : Nat) (hF : 3 < F) : fX5_text_L53 C F 0 v = C (nI 2) (v.1, upd (upd (vKe v) 0 0) 1 0, v.2.2) := by
  obtain ⟨m, rfl⟩ : ∃ m, F = m + 3 := ⟨F - 3, by omega⟩
  rw [fX5_text_L53, if_neg (by decide), gd, if_neg (by decide), nm_q, nm_q, nar0, show (0 : Int32) + 1 = nI 1 from rfl, fX5_text_L53, if_neg (by decide), gd, if_neg (by decide), nm_q, nm_q, nar0, show nI 1 + 1 = nI 2 from rfl, fX5_text_L53, if_pos (by decide)]
  rfl
theorem ev_text (v : VT) (rd : RT) (dr : CT) (nw : CT) (tr : CT) (da : DT) (i0 : CT) (i1 : CT) (s0 : ST) (s1 : ST) (s2 : ST) (s3 : ST) (st : AI) (now : AI) (isKept : AI) (hearers : Int32) (draft : AI) (dHearers : Int32) (dWalls : Int32) (toldWinds : Int32) (tape : AI) (taped : Int32) (pos : Int32) (frm : Int32) (sort : Int32) (value : Int32) (fault : Int32) (wrongAt : Int32) (landed : AI) (landedIn : AI) (stepped : AI) (isThere : AI) (isAt : AI) (isNext : AI) (landSum : Int64) (heardSum : Int64) (allWays : Int64) (ways : AI) (drawn : AI) (lanes : AI) (sizes : AI) (cells : AI) (torn : Int32) (before : AI) (hR : Rel v rd nw i0 i1 s0 s1 s2 s3 st isKept hearers tape taped fault lanes sizes cells torn) : ∃ (res : Int32) (v_x : VT) (rd_x : RT) (dr_x : CT) (nw_x : CT) (st_x : AI) (isKept_x : AI) (hearers_x : Int32) (draft_x : AI) (dHearers_x : Int32) (dWalls_x : Int32) (toldWinds_x : Int32) (taped_x : Int32) (pos_x : Int32) (frm_x : Int32) (sort_x : Int32) (value_x : Int32) (fault_x : Int32) (wrongAt_x : Int32), fX5_text v rd dr nw = some (res, v_x, rd_x, dr_x, nw_x) ∧ fX6_text st isKept hearers draft dHearers dWalls toldWinds tape taped pos frm sort value fault wrongAt = some (res, st_x, isKept_x, hearers_x, draft_x, dHearers_x, dWalls_x, toldWinds_x, taped_x, pos_x, frm_x, sort_x, value_x, fault_x, wrongAt_x) ∧ (Rel v_x rd_x nw_x i0 i1 s0 s1 s2 s3 st_x isKept_x hearers_x tape taped_x fault_x lanes sizes cells torn) := by
  have hR0 := hR
  obtain ⟨⟨K, hK, hc, hm⟩, r0, r1, rt, rf, q0, q1, q2, q3, rl⟩ := hR
  obtain ⟨n, hn, e1, e2, e3⟩ := rt
  subst e2
  have tn : ∀ i, i < n → rTa rd i = nI ((rTa rd i).toNatClampNeg) ∧ tape i = nI ((rTa rd i).toNatClampNeg) ∧ (rTa rd i).toNatClampNeg < 128 := fun i hi => by
    obtain ⟨b, h1, h2, h3⟩ := e3 i hi
    rw [h2, h3, nI_clamp (by omega)]
    exact ⟨rfl, rfl, h1⟩
  have hb : BT n (fun i => (rTa rd i).toNatClampNeg) tape := ⟨hn, fun i hi => ⟨(tn i hi).2.1, (tn i hi).2.2⟩⟩
  have hbc : BT n (fun i => (rTa rd i).toNatClampNeg) (rTa rd) := ⟨hn, fun i hi => ⟨(tn i hi).1, (tn i hi).2.2⟩⟩
  obtain ⟨dr0, c1, c2⟩ := c_clear dr
  obtain ⟨d0, m1, m2⟩ := m_first draft dHearers dWalls toldWinds
  obtain ⟨a1, a2, a3, a4, a5, a6, t1, t2⟩ := m_takes (a := 0) hb (by omega) frm sort value wrongAt
  obtain ⟨F, hF⟩ : ∃ F, F = 4096 := ⟨_, rfl⟩
  have hD : DK2 K00 dr0 d0 (nI 0) (nI 0) := ⟨WF_00, c2, m2, by rw [show kW K00 = 0 from rfl, pc_0]⟩
  have key := lines_b hb (fun v13 draft_14 dHearers_15 dWalls_16 toldWinds_17 pos_18 frm_19 sort_20 value_21 fault_22 wrongAt_23 => if fault_22 ≤ 0 then (bd3 (fX6_keepDraft st isKept hearers draft_14 dHearers_15) fun st_40 isKept_41 hearers_42 => some (v13, st_40, isKept_41, hearers_42, draft_14, dHearers_15, dWalls_16, toldWinds_17, 0, pos_18, frm_19, sort_20, value_21, fault_22, wrongAt_23)) else (nm ((-10 : Int32) - wrongAt_23) fun x44 => some (x44, st, isKept, hearers, draft_14, dHearers_15, dWalls_16, toldWinds_17, 0, pos_18, frm_19, sort_20, value_21, fault_22, wrongAt_23))) (r := rTh' (rPl' (rFl' (rAt' rd 0) 0) 0) 0) ⟨hbc, e1, rfl, rfl⟩ t2 hD rfl F (by omega)
  have eC : fX2_readLines rd dr = fX2_readLines_L29 (fun v7 r_8 dr_9 => some (v7, r_8, dr_9)) F 0 (rTh' (rPl' (rFl' (rAt' rd 0) 0) 0) 0) dr0 := by
    rw [fX2_readLines, nm_q, nm_q, nm_q, nm_q, c1, bd1_some, ← hF]
  have eM : fX6_text st isKept hearers draft dHearers dWalls toldWinds tape (nI n) pos frm sort value fault wrongAt = fX6_text_L20 tape (nI n) (fun v13 draft_14 dHearers_15 dWalls_16 toldWinds_17 pos_18 frm_19 sort_20 value_21 fault_22 wrongAt_23 => if fault_22 ≤ 0 then (bd3 (fX6_keepDraft st isKept hearers draft_14 dHearers_15) fun st_40 isKept_41 hearers_42 => some (v13, st_40, isKept_41, hearers_42, draft_14, dHearers_15, dWalls_16, toldWinds_17, 0, pos_18, frm_19, sort_20, value_21, fault_22, wrongAt_23)) else (nm ((-10 : Int32) - wrongAt_23) fun x44 => some (x44, st, isKept, hearers, draft_14, dHearers_15, dWalls_16, toldWinds_17, 0, pos_18, frm_19, sort_20, value_21, fault_22, wrongAt_23))) F 0 d0 (nI 0) (nI 0) 0 a1 a2 a3 a4 a5 a6 := by
    rw [fX6_text, m1, bd4_some, show fX6_takes tape (nI n) 0 frm sort value 0 wrongAt = _ from t1, bd6_some, ← hF]
    rfl
  rw [← eC, ← eM] at key
  rcases key with ⟨i, r, drx, K2, draft2, dH2, dW2, tW2, pos2, frm2, sort2, value2, wrongAt2, x1, x2, x3, x4⟩ | ⟨i, i', r, drx, f, w, draft2, dH2, dW2, tW2, pos2, frm2, sort2, value2, x1, x2, x3, x4, x5, x6⟩
  · obtain ⟨k1, k2, k3, k4⟩ := x4
    refine ⟨nI i, (v.1, upd (upd (vKe v) 0 0) 1 0, v.2.2), rSz' r 0, drx, drx, fa_fill draft2 st 61, upd (upd isKept 0 0) 1 0, dH2, draft2, dH2, dW2, tW2, 0, pos2, frm2, sort2, value2, nI 0, wrongAt2, ?_, ?_, ⟨K2, k1, k2, RCm_cong k1 (fun j hj => by rw [fa_fill_in (by omega)]) k3⟩, ⟨?_, Or.inl ?_⟩, ⟨?_, Or.inl ?_⟩, ⟨0, by omega, rfl, rfl, fun i hi => by omega⟩, x2, q0, q1, q2, q3, rl⟩
    · rw [fX5_text, x1, bd3_some, nm_q, if_pos (show rFl (rSz' r 0) = 0 from x2), fX0_copyTo, bd1_some, ← hF, c_unkeep v _ F (by omega)]
    · rw [x3]
      show (if nI 0 ≤ 0 then _ else _) = _
      rw [if_pos (by decide), m_keepD, bd3_some]
    · show upd (upd (vKe v) 0 0) 1 0 0 = upd (upd isKept 0 0) 1 0 0
      rw [pk_un (by omega), pk_us, pk_un (by omega), pk_us]
    · rw [pk_un (by omega), pk_us]
    · show upd (upd (vKe v) 0 0) 1 0 1 = upd (upd isKept 0 0) 1 0 1
      rw [pk_us, pk_us]
    · exact pk_us
  · refine ⟨(-10 : Int32) - nI w, v, rSz' r 0, drx, nw, st, isKept, hearers, draft2, dH2, dW2, tW2, 0, pos2, frm2, sort2, value2, nI f, nI w, ?_, ?_, ⟨K, hK, hc, hm⟩, r0, r1, ⟨0, by omega, rfl, rfl, fun i hi => by omega⟩, x2, q0, q1, q2, q3, rl⟩
    · rw [fX5_text, x1, bd3_some, nm_q, if_neg (show ¬ rFl (rSz' r 0) = 0 by show ¬ rFl r = 0; rw [x2]; exact nz x4 x5), nm_q, show rPl (rSz' r 0) = nI w from x3]
    · rw [x6]
      show (if nI f ≤ 0 then _ else _) = _
      rw [if_neg (nle x4 x5), nm_q]
