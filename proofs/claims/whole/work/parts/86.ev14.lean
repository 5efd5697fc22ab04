-- look
/-- how many forces below n, as SEEN, bring saying u to the cell named c -/
def wyP (K : KT) (s u c f : Nat) : Bool := decide (1 ≤ f) && soB K s 3 f && (cell ((dayK (setT K s 3 f)).2.1 u) == c)
def wy (K : KT) (s u c n : Nat) : Nat := ct (wyP K s u c) n
theorem wy_le (K : KT) (s u c n : Nat) : wy K s u c n ≤ n := ct_le _ _
def IsMx (w : Nat → Nat) (m : Nat) : Prop := (∀ c, c < 80 → w c ≤ m) ∧ (m = 0 ∨ ∃ c, c < 80 ∧ w c = m)
theorem mx_one {w : Nat → Nat} {m m' : Nat} (h : IsMx w m) (h' : IsMx w m') : m = m' := by
  have a : m ≤ m' := by
    rcases h.2 with h | ⟨c, hc, e⟩
    · omega
    · rw [← e]; exact h'.1 c hc
  have b : m' ≤ m := by
    rcases h'.2 with h' | ⟨c, hc, e⟩
    · omega
    · rw [← e]; exact h.1 c hc
  omega
theorem wy_no {K : KT} {s u c n : Nat} (h : soB K s 3 n = false ∨ n = 0 ∨ cell ((dayK (setT K s 3 n)).2.1 u) ≠ c) : wy K s u c (n + 1) = wy K s u c n := by
  unfold wy
  rw [ct, if_neg, Nat.add_zero]
  unfold wyP
  rcases h with h | h | h
  · rw [h]; simp
  · subst h; simp
  · simp [h]
theorem wy_yes {K : KT} {s u n : Nat} (h : soB K s 3 n = true) (h1 : 1 ≤ n) : wy K s u (cell ((dayK (setT K s 3 n)).2.1 u)) (n + 1) = wy K s u (cell ((dayK (setT K s 3 n)).2.1 u)) n + 1 := by
  unfold wy
  rw [ct, if_pos]
  unfold wyP
  rw [h]
  simp [h1]
theorem mx_step {K : KT} {s u n m : Nat} (h : soB K s 3 n = true) (h1 : 1 ≤ n) (hp : (dayK (setT K s 3 n)).2.1 u < 64) (hm : IsMx (fun c => wy K s u c n) m) : IsMx (fun c => wy K s u c (n + 1)) (if m < wy K s u (cell ((dayK (setT K s 3 n)).2.1 u)) n + 1 then wy K s u (cell ((dayK (setT K s 3 n)).2.1 u)) n + 1 else m) := by
  have hy := wy_yes (u := u) h h1
  have hc := cell_lt hp
  generalize cell ((dayK (setT K s 3 n)).2.1 u) = p at *
  have hn : ∀ c, c ≠ p → wy K s u c (n + 1) = wy K s u c n := fun c hc2 => by
    by_cases e : cell ((dayK (setT K s 3 n)).2.1 u) = c
    · exfalso
      have h2 := wy_yes (u := u) h h1
      rw [e] at h2
      have h3 : wy K s u p (n + 1) = wy K s u p n := wy_no (Or.inr (Or.inr (by rw [e]; exact hc2)))
      omega
    · exact wy_no (Or.inr (Or.inr e))
  obtain ⟨a, b⟩ := hm
  by_cases d : m < wy K s u p n + 1
  · rw [if_pos d]
    refine ⟨fun c hc2 => ?_, Or.inr ⟨p, by omega, hy⟩⟩
    show wy K s u c (n + 1) ≤ _
    by_cases e : c = p
    · rw [e, hy]; exact Nat.le_refl _
    · rw [hn c e]
      have := a c hc2
      simp only at this
      omega
  · rw [if_neg d]
    refine ⟨fun c hc2 => ?_, ?_⟩
    · show wy K s u c (n + 1) ≤ _
      by_cases e : c = p
      · rw [e, hy]; omega
      · rw [hn c e]; exact a c hc2
    · rcases b with b | ⟨c, hc2, e⟩
      · exact Or.inl b
      · simp only at e
        by_cases e2 : c = p
        · rw [e2] at e; omega
        · exact Or.inr ⟨c, hc2, by show wy K s u c (n + 1) = m; rw [hn c e2]; exact e⟩
theorem mx_skip {K : KT} {s u n m : Nat} (h : soB K s 3 n = false) (hm : IsMx (fun c => wy K s u c n) m) : IsMx (fun c => wy K s u c (n + 1)) m := by
  have e : (fun c => wy K s u c (n + 1)) = (fun c => wy K s u c n) := funext fun c => wy_no (Or.inl h)
  rw [e]
  exact hm
theorem soM_tb {K : KT} {s f : Nat} (h1 : 1 ≤ f) (h2 : f ≤ 9) : (soM K s 3 1 9).testBit f = soB K s 3 f := by
  unfold soM
  rw [bs_tb]
  have : f < 9 + 1 := by omega
  simp [h1, this]
theorem soM_lt (K : KT) (s : Nat) : soM K s 3 1 9 < 1024 := bs_lt _ 10
theorem c_tally0 (v : VT) (C : Int32 → VT → Option (Int32 × VT × CT × DT)) (F : Nat) (hF : 64 < F) : fX5_mostLeft_L6 C F 0 v = C (nI 64) (fa_fill (fun _ => nI 0) (vTa v) 64, v.2) := by
  refine solo (fun n (t : Int32 × VT) => fX5_mostLeft_L6 C n t.1 t.2) (fun i t => t = (nI i, (fa_fill (fun _ => nI 0) (vTa v) i, v.2))) (fun x => x = C (nI 64) (fa_fill (fun _ => nI 0) (vTa v) 64, v.2)) 64 ?_ ?_ 64 0 F (nI 0, v) (by omega) (by omega) (by rw [fa_fill_0])
  · rintro i t n hi rfl ih
    have := ih _ rfl
    rw [← fa_fill_succ] at this
    show fX5_mostLeft_L6 C (n + 1) (nI i) (fa_fill (fun _ => nI 0) (vTa v) i, v.2) = _
    rw [fX5_mostLeft_L6]
    simp (disch := omega) only [nm_q, bd1_some, bd2_some, bd3_some, bd4_some, bd5_some, bd6_some, bd7_some, bd8_some, bd9_some, bd10_some, bd11_some, bd1_ite, ↓reduceIte, gd_nI, gb_nI, gb_ite, li, liL, nI_add, nI_1, pk_sub, pk_mul, pk_div, nI_clamp, nI_eq, nI_leI, nI_ltI, nI_eqn, nI_neq, nI_nn, nI_len, nI_ltn, ngI_le, ngI_lt, nng, sm10, sm8, shr_n, shl_n, and_1, fa_or, leT, leF, ltT, ltF, eqT, eqF, vTa', vTa]
    exact this
  · rintro t n rfl
    show fX5_mostLeft_L6 C (n + 1) (nI 64) (fa_fill (fun _ => nI 0) (vTa v) 64, v.2) = _
    rw [fX5_mostLeft_L6]
    simp (disch := omega) only [nm_q, bd1_some, bd2_some, bd3_some, bd4_some, bd5_some, bd6_some, bd7_some, bd8_some, bd9_some, bd10_some, bd11_some, bd1_ite, ↓reduceIte, gd_nI, gb_nI, gb_ite, li, liL, nI_add, nI_1, pk_sub, pk_mul, pk_div, nI_clamp, nI_eq, nI_leI, nI_ltI, nI_eqn, nI_neq, nI_nn, nI_len, nI_ltn, ngI_le, ngI_lt, nng, sm10, sm8, shr_n, shl_n, and_1, fa_or, leT, leF, ltT, ltF, eqT, eqF]
theorem c_mostLeft {K : KT} {s u : Nat} {nw : CT} (v : VT) (tr : CT) (da : DT) (hK : WFk K) (hc : RCc K nw) (hs : s < kN K) (hu : u < kN K) : ∃ m v' tr' da', fX5_mostLeft (nI s) (nI (soM K s 3 1 9)) (nI u) v nw tr da = some (nI m, v', tr', da') ∧ IsMx (fun c => wy K s u c 10) m ∧ m ≤ 10 ∧ v'.2 = v.2 := by
  have hN := WF_N hK
  have hM := soM_lt K s
  obtain ⟨F, hF⟩ : ∃ F, F = 4096 := ⟨_, rfl⟩
  rw [fX5_mostLeft, ← hF, c_tally0 v _ F (by omega), fX0_copyTo, bd1_some]
  refine solo (fun n (t : Int32 × Int32 × VT × CT × DT) => fX5_mostLeft_L41 (nI s) (nI (soM K s 3 1 9)) (nI u) (fun v10 v11 v_12 tr_13 da_14 => some (v11, v_12, tr_13, da_14)) n t.1 t.2.1 t.2.2.1 t.2.2.2.1 t.2.2.2.2) (fun i t => 1 ≤ i ∧ t.1 = nI i ∧ (∃ m, m ≤ i ∧ t.2.1 = nI m ∧ IsMx (fun c => wy K s u c i) m) ∧ (∀ p, p < 64 → vTa t.2.2.1 p = nI (wy K s u (cell p) i)) ∧ t.2.2.1.2 = v.2 ∧ ∃ v', RCc (setT K s 3 v') t.2.2.2.1) (fun x => ∃ m v' tr' da', x = some (nI m, v', tr', da') ∧ IsMx (fun c => wy K s u c 10) m ∧ m ≤ 10 ∧ v'.2 = v.2) 10 ?_ ?_ 9 1 F (nI 1, nI 0, (fa_fill (fun _ => nI 0) (vTa v) 64, v.2), nw, da) (by omega) (by omega) ?_
  · rintro i ⟨x1, x2, v1, tr, da⟩ n hi ⟨e0, e1, ⟨m, hm, e2, e3⟩, e4, e5, v', e6⟩ ih
    simp only at e1 e2 e4 e5 e6 ⊢
    subst e1 e2
    have tb := soM_tb (K := K) (s := s) e0 (show i ≤ 9 by omega)
    rw [fX5_mostLeft_L41]
    cases eb : soB K s 3 i with
    | true =>
      rw [eb] at tb
      have hv := ok3 e0 (show i ≤ 9 by omega)
      obtain ⟨da', g1, g2, g3⟩ := c_try da hK hs hv e6
      obtain ⟨b1, b2, _⟩ := g3.2.2.2 u hu
      have b1 : dPl da' u = nI ((dayK (setT K s 3 i)).2.1 u) := b1
      have b2 : (dayK (setT K s 3 i)).2.1 u < 64 := b2
      rw [show tvk 3 i = i from rfl] at g1 g2
      have t1 := e4 _ b2
      have hw := wy_le K s u (cell ((dayK (setT K s 3 i)).2.1 u)) i
      have z := (tb1 (soM K s 3 1 9) i).mpr tb
      have next := ih (nI (i + 1), nI (if m < wy K s u (cell ((dayK (setT K s 3 i)).2.1 u)) i + 1 then wy K s u (cell ((dayK (setT K s 3 i)).2.1 u)) i + 1 else m), (upd (vTa v1) ((dayK (setT K s 3 i)).2.1 u) (nI (wy K s u (cell ((dayK (setT K s 3 i)).2.1 u)) i + 1)), v1.2), _, da') ⟨by omega, rfl, ⟨_, by split <;> omega, rfl, mx_step eb e0 b2 e3⟩, fun p hp => ?_, e5, i, g2⟩
      · simp (disch := omega) only [nm_q, bd1_some, bd2_some, bd3_some, bd4_some, bd5_some, bd6_some, bd7_some, bd8_some, bd9_some, bd10_some, bd11_some, bd1_ite, ↓reduceIte, gd_nI, gb_nI, gb_ite, li, liL, nI_add, nI_1, pk_sub, pk_mul, pk_div, nI_clamp, nI_eq, nI_leI, nI_ltI, nI_eqn, nI_neq, nI_nn, nI_len, nI_ltn, ngI_le, ngI_lt, nng, sm10, sm8, shr_n, shl_n, and_1, fa_or, leT, leF, ltT, ltF, eqT, eqF, z, g1, b1, t1, vTa, vTa', pk_us]
        by_cases d : m < wy K s u (cell ((dayK (setT K s 3 i)).2.1 u)) i + 1
        · simp only [if_pos d] at next ⊢
          exact next
        · simp only [if_neg d] at next ⊢
          exact next
      · show upd (vTa v1) _ _ p = _
        by_cases d : p = (dayK (setT K s 3 i)).2.1 u
        · rw [d, pk_us, wy_yes eb e0]
        · rw [pk_un d, e4 p hp, wy_no (Or.inr (Or.inr (fun e => d ((cell_inj b2 hp).mp e).symm)))]
    | false =>
      rw [eb] at tb
      have z := (tb0 (soM K s 3 1 9) i).mpr tb
      simp (disch := omega) only [nm_q, bd1_some, bd2_some, bd3_some, bd4_some, bd5_some, bd6_some, bd7_some, bd8_some, bd9_some, bd10_some, bd11_some, bd1_ite, ↓reduceIte, gd_nI, gb_nI, gb_ite, li, liL, nI_add, nI_1, pk_sub, pk_mul, pk_div, nI_clamp, nI_eq, nI_leI, nI_ltI, nI_eqn, nI_neq, nI_nn, nI_len, nI_ltn, ngI_le, ngI_lt, nng, sm10, sm8, shr_n, shl_n, and_1, fa_or, leT, leF, ltT, ltF, eqT, eqF, z]
      exact ih (nI (i + 1), nI m, v1, tr, da) ⟨by omega, rfl, ⟨m, by omega, rfl, mx_skip eb e3⟩, fun p hp => by rw [wy_no (Or.inl eb)]; exact e4 p hp, e5, v', e6⟩
  · rintro ⟨x1, x2, v1, tr, da⟩ n ⟨e0, e1, ⟨m, hm, e2, e3⟩, e4, e5, e6⟩
    simp only at e1 e2 e4 e5 e6 ⊢
    subst e1 e2
    rw [fX5_mostLeft_L41]
    simp (disch := omega) only [nm_q, bd1_some, bd2_some, bd3_some, bd4_some, bd5_some, bd6_some, bd7_some, bd8_some, bd9_some, bd10_some, bd11_some, bd1_ite, ↓reduceIte, gd_nI, gb_nI, gb_ite, li, liL, nI_add, nI_1, pk_sub, pk_mul, pk_div, nI_clamp, nI_eq, nI_leI, nI_ltI, nI_eqn, nI_neq, nI_nn, nI_len, nI_ltn, ngI_le, ngI_lt, nng, sm10, sm8, shr_n, shl_n, and_1, fa_or, leT, leF, ltT, ltF, eqT, eqF]
    exact ⟨m, v1, tr, da, rfl, e3, hm, e5⟩
  · have hw0 : ∀ c, wy K s u c 1 = 0 := fun c => by
      have : wy K s u c 1 = wy K s u c 0 := wy_no (Or.inr (Or.inl rfl))
      rw [this]; rfl
    refine ⟨by omega, rfl, ⟨0, by omega, rfl, fun c _ => by simp [hw0], Or.inl rfl⟩, fun p hp => ?_, rfl, _, by rw [set_same]; exact hc⟩
    show fa_fill (fun _ => nI 0) (vTa v) 64 p = _
    rw [fa_fill_in hp, hw0]
/-- the reference's counts -/
def WY (K : KT) (s : Nat) (n : Nat → Nat) (ways : AI) : Prop := ∀ u, u < kN K → ∀ c, c < 80 → ways (80 * u + c) = nI (wy K s u c (n u))
theorem m_worst {K : KT} {s u n : Nat} {ways : AI} (hu : u < 5) (hn : n ≤ 10) (hw : ∀ c, c < 80 → ways (80 * u + c) = nI (wy K s u c n)) (C : Int32 → Int32 → Option (Int32 × AI × AI × AI × AI × AI)) (F : Nat) (hF : 80 < F) : ∃ m, IsMx (fun c => wy K s u c n) m ∧ m ≤ 10 ∧ fX6_look_L142 ways (nI u) C F (nI 0) (nI 0) = C (nI 80) (nI m) := by
  refine solo (fun k (t : Int32 × Int32) => fX6_look_L142 ways (nI u) C k t.1 t.2) (fun i t => ∃ m, m ≤ 10 ∧ t = (nI i, nI m) ∧ (∀ c, c < i → wy K s u c n ≤ m) ∧ (m = 0 ∨ ∃ c, c < i ∧ wy K s u c n = m)) (fun x => ∃ m, IsMx (fun c => wy K s u c n) m ∧ m ≤ 10 ∧ x = C (nI 80) (nI m)) 80 ?_ ?_ 80 0 F (nI 0, nI 0) (by omega) hF ⟨0, by omega, rfl, fun c hc => by omega, Or.inl rfl⟩
  · rintro i t k hi ⟨m, hm, rfl, e1, e2⟩ ih
    show ∃ m', IsMx (fun c => wy K s u c n) m' ∧ m' ≤ 10 ∧ fX6_look_L142 ways (nI u) C (k + 1) (nI i) (nI m) = C (nI 80) (nI m')
    rw [fX6_look_L142]
    have a1 := hw i hi
    have a2 := wy_le K s u i n
    by_cases d : wy K s u i n ≤ m
    · simp (disch := omega) only [nm_q, bd1_some, bd2_some, bd3_some, bd4_some, bd5_some, bd6_some, bd7_some, bd8_some, bd9_some, bd10_some, bd11_some, bd1_ite, ↓reduceIte, gd_nI, gb_nI, gb_ite, li, liL, nI_add, nI_1, pk_sub, pk_mul, pk_div, nI_clamp, nI_eq, nI_leI, nI_ltI, nI_eqn, nI_neq, nI_nn, nI_len, nI_ltn, ngI_le, ngI_lt, nng, sm10, sm8, shr_n, shl_n, and_1, fa_or, leT, leF, ltT, ltF, eqT, eqF, a1]
      refine ih (nI (i + 1), nI m) ⟨m, hm, rfl, fun c hc => ?_, ?_⟩
      · by_cases e : c = i
        · rw [e]; exact d
        · exact e1 c (by omega)
      · rcases e2 with e2 | ⟨c, hc, e⟩
        · exact Or.inl e2
        · exact Or.inr ⟨c, by omega, e⟩
    · simp (disch := omega) only [nm_q, bd1_some, bd2_some, bd3_some, bd4_some, bd5_some, bd6_some, bd7_some, bd8_some, bd9_some, bd10_some, bd11_some, bd1_ite, ↓reduceIte, gd_nI, gb_nI, gb_ite, li, liL, nI_add, nI_1, pk_sub, pk_mul, pk_div, nI_clamp, nI_eq, nI_leI, nI_ltI, nI_eqn, nI_neq, nI_nn, nI_len, nI_ltn, ngI_le, ngI_lt, nng, sm10, sm8, shr_n, shl_n, and_1, fa_or, leT, leF, ltT, ltF, eqT, eqF, a1]
      refine ih (nI (i + 1), nI (wy K s u i n)) ⟨_, by omega, rfl, fun c hc => ?_, Or.inr ⟨i, by omega, rfl⟩⟩
      by_cases e : c = i
      · rw [e]; exact Nat.le_refl _
      · have := e1 c (by omega); omega
  · rintro t k ⟨m, hm, rfl, e1, e2⟩
    refine ⟨m, ⟨e1, e2⟩, hm, ?_⟩
    show fX6_look_L142 ways (nI u) C (k + 1) (nI 80) (nI m) = _
    rw [fX6_look_L142]
    simp (disch := omega) only [nm_q, bd1_some, bd2_some, bd3_some, bd4_some, bd5_some, bd6_some, bd7_some, bd8_some, bd9_some, bd10_some, bd11_some, bd1_ite, ↓reduceIte, gd_nI, gb_nI, gb_ite, li, liL, nI_add, nI_1, pk_sub, pk_mul, pk_div, nI_clamp, nI_eq, nI_leI, nI_ltI, nI_eqn, nI_neq, nI_nn, nI_len, nI_ltn, ngI_le, ngI_lt, nng, sm10, sm8, shr_n, shl_n, and_1, fa_or, leT, leF, ltT, ltF, eqT, eqF]
theorem m_ways {K : KT} {s f : Nat} {st la : AI} (hN : kN K ≤ 5) (e43 : st 43 = nI (kN K)) (hs : soB K s 3 f = true) (h1 : 1 ≤ f) (h9 : f ≤ 9) (hl : ∀ u, u < kN K → la u = nI (cell ((dayK (setT K s 3 f)).2.1 u)) ∧ (dayK (setT K s 3 f)).2.1 u < 64) (P : Option (Int32 × AI × AI × AI × AI × AI) → Prop) (C : Int32 → AI → Option (Int32 × AI × AI × AI × AI × AI)) (hC : ∀ ways, WY K s (fun _ => f + 1) ways → P (C (nI (kN K)) ways)) (F : Nat) (hF : 6 < F) (ways : AI) (hw : WY K s (fun _ => f) ways) : P (fX6_look_L75 st la C F (nI 0) ways) := by
  refine solo (fun k (t : Int32 × AI) => fX6_look_L75 st la C k t.1 t.2) (fun i t => t.1 = nI i ∧ WY K s (fun u => if u < i then f + 1 else f) t.2) P (kN K) ?_ ?_ (kN K) 0 F (nI 0, ways) (by omega) (by omega) ⟨rfl, fun u hu c hc => by show ways (80 * u + c) = nI (wy K s u c (if u < 0 then f + 1 else f)); rw [if_neg (by omega)]; exact hw u hu c hc⟩
  · rintro i ⟨x1, ways⟩ n hi ⟨e1, e2⟩ ih
    simp only at e1 e2 ⊢
    subst e1
    obtain ⟨b1, b2⟩ := hl i hi
    have hcl := cell_lt b2
    have a1 : ways (80 * i + cell ((dayK (setT K s 3 f)).2.1 i)) = nI (wy K s i (cell ((dayK (setT K s 3 f)).2.1 i)) (if i < i then f + 1 else f)) := e2 i hi _ (by omega)
    rw [if_neg (Nat.lt_irrefl i)] at a1
    rw [fX6_look_L75]
    simp (disch := omega) only [nm_q, bd1_some, bd2_some, bd3_some, bd4_some, bd5_some, bd6_some, bd7_some, bd8_some, bd9_some, bd10_some, bd11_some, bd1_ite, ↓reduceIte, gd_nI, gb_nI, gb_ite, li, liL, nI_add, nI_1, pk_sub, pk_mul, pk_div, nI_clamp, nI_eq, nI_leI, nI_ltI, nI_eqn, nI_neq, nI_nn, nI_len, nI_ltn, ngI_le, ngI_lt, nng, sm10, sm8, shr_n, shl_n, and_1, fa_or, leT, leF, ltT, ltF, eqT, eqF, e43, b1, a1]
    refine ih (nI (i + 1), _) ⟨rfl, fun u hu c hc => ?_⟩
    show upd ways _ _ _ = nI (wy K s u c (if u < i + 1 then f + 1 else f))
    have e3 : ways (80 * u + c) = nI (wy K s u c (if u < i then f + 1 else f)) := e2 u hu c hc
    by_cases d : u = i ∧ c = cell ((dayK (setT K s 3 f)).2.1 i)
    · obtain ⟨rfl, rfl⟩ := d
      rw [pk_us, if_pos (by omega), wy_yes hs h1]
    · rw [pk_un (by omega), e3]
      by_cases d2 : u = i
      · rw [d2, if_neg (by omega), if_pos (by omega), wy_no (Or.inr (Or.inr (fun e => d ⟨d2, e.symm⟩)))]
      · by_cases d3 : u < i
        · rw [if_pos d3, if_pos (by omega)]
        · rw [if_neg d3, if_neg (by omega)]
  · rintro ⟨x1, ways⟩ n ⟨e1, e2⟩
    simp only at e1 e2 ⊢
    subst e1
    rw [fX6_look_L75]
    simp (disch := omega) only [nm_q, bd1_some, bd2_some, bd3_some, bd4_some, bd5_some, bd6_some, bd7_some, bd8_some, bd9_some, bd10_some, bd11_some, bd1_ite, ↓reduceIte, gd_nI, gb_nI, gb_ite, li, liL, nI_add, nI_1, pk_sub, pk_mul, pk_div, nI_clamp, nI_eq, nI_leI, nI_ltI, nI_eqn, nI_neq, nI_nn, nI_len, nI_ltn, ngI_le, ngI_lt, nng, sm10, sm8, shr_n, shl_n, and_1, fa_or, leT, leF, ltT, ltF, eqT, eqF, e43]
    exact hC ways fun u hu c hc => by
      have e3 : ways (80 * u + c) = nI (wy K s u c (if u < kN K then f + 1 else f)) := e2 u hu c hc
      rw [e3, if_pos hu]
