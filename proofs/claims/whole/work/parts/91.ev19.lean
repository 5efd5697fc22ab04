-- walk, walks: the reference's flags
def FA (W : Nat) (f : AI) : Prop := ∀ c, c < 80 → f c = if (decide (c % 10 < 8) && W.testBit (c / 10 * 8 + c % 10)) then nI 1 else nI 0
theorem FA_c {W p : Nat} {f : AI} (h : FA W f) (hp : p < 64) : f (cell p) = if W.testBit p then nI 1 else nI 0 := by
  have hc := cell_lt hp
  rw [h (cell p) (by omega), cell_m hp, cell_d hp]
  have h1 : p % 8 < 8 := by omega
  have h2 : p / 8 * 8 + p % 8 = p := by omega
  simp [h1, h2]
theorem nar1n : vp_nar .boolean (nI 1) = nI 1 := by decide
theorem nar0n : vp_nar .boolean (nI 0) = nI 0 := by decide
theorem nar_b (b : Bool) : vp_nar .boolean (if b then nI 1 else nI 0) = if b then nI 1 else nI 0 := by cases b <;> decide
theorem m_nb {W p : Nat} {isAt : AI} (h : FA W isAt) (hp : p < 64) (C : Int32 → Int32 → Option (AI × AI)) (F : Nat) (hF : 4 < F) : fX6_walksOn_L24 isAt (nI (cell p)) C F (nI 0) (if W.testBit p then nI 1 else nI 0) = C (nI 4) (if nbB W p 4 then nI 1 else nI 0) := by
  refine solo (fun n (t : Int32 × Int32) => fX6_walksOn_L24 isAt (nI (cell p)) C n t.1 t.2) (fun i t => t = (nI i, if nbB W p i then nI 1 else nI 0)) (fun x => x = C (nI 4) (if nbB W p 4 then nI 1 else nI 0)) 4 ?_ ?_ 4 0 F (nI 0, _) (by omega) hF rfl
  · rintro i t n hi rfl ih
    have next := ih _ rfl
    show fX6_walksOn_L24 isAt (nI (cell p)) C (n + 1) (nI i) (if nbB W p i then nI 1 else nI 0) = _
    rw [fX6_walksOn_L24]
    rw [nbB] at next
    cases eb : nbB W p i with
    | true =>
      rw [eb, Bool.true_or] at next
      simp (disch := omega) only [nm_q, bd1_some, bd2_some, bd3_some, bd4_some, bd5_some, bd6_some, bd7_some, bd8_some, bd9_some, bd10_some, bd11_some, bd1_ite, ↓reduceIte, gd_nI, gb_nI, gb_ite, li, liL, nI_add, nI_1, pk_sub, pk_mul, pk_div, nI_clamp, nI_eq, nI_leI, nI_ltI, nI_eqn, nI_neq, nI_nn, nI_len, nI_ltn, ngI_le, ngI_lt, nng, sm10, sm8, shr_n, shl_n, and_1, fa_or, leT, leF, ltT, ltF, eqT, eqF, m_on p hp i hi, tt_i]
      exact next
    | false =>
      rw [eb, Bool.false_or] at next
      cases eo : onP p i with
      | none =>
        simp only [eo] at next
        simp (disch := omega) only [nm_q, bd1_some, bd2_some, bd3_some, bd4_some, bd5_some, bd6_some, bd7_some, bd8_some, bd9_some, bd10_some, bd11_some, bd1_ite, ↓reduceIte, gd_nI, gb_nI, gb_ite, li, liL, nI_add, nI_1, pk_sub, pk_mul, pk_div, nI_clamp, nI_eq, nI_leI, nI_ltI, nI_eqn, nI_neq, nI_nn, nI_len, nI_ltn, ngI_le, ngI_lt, nng, sm10, sm8, shr_n, shl_n, and_1, fa_or, leT, leF, ltT, ltF, eqT, eqF, m_on p hp i hi, ff_i, eo, eM_n]
        exact next
      | some q =>
        simp only [eo] at next
        have hq := onP_lt hp eo
        have hcl := cell_lt hq
        have e1 := FA_c h hq
        cases eq : W.testBit q with
        | true =>
          rw [eq] at next e1
          simp (disch := omega) only [nm_q, bd1_some, bd2_some, bd3_some, bd4_some, bd5_some, bd6_some, bd7_some, bd8_some, bd9_some, bd10_some, bd11_some, bd1_ite, ↓reduceIte, gd_nI, gb_nI, gb_ite, li, liL, nI_add, nI_1, pk_sub, pk_mul, pk_div, nI_clamp, nI_eq, nI_leI, nI_ltI, nI_eqn, nI_neq, nI_nn, nI_len, nI_ltn, ngI_le, ngI_lt, nng, sm10, sm8, shr_n, shl_n, and_1, fa_or, leT, leF, ltT, ltF, eqT, eqF, m_on p hp i hi, ff_i, tt_i, eo, eM_s, e1]
          exact next
        | false =>
          rw [eq] at next e1
          simp (disch := omega) only [nm_q, bd1_some, bd2_some, bd3_some, bd4_some, bd5_some, bd6_some, bd7_some, bd8_some, bd9_some, bd10_some, bd11_some, bd1_ite, ↓reduceIte, gd_nI, gb_nI, gb_ite, li, liL, nI_add, nI_1, pk_sub, pk_mul, pk_div, nI_clamp, nI_eq, nI_leI, nI_ltI, nI_eqn, nI_neq, nI_nn, nI_len, nI_ltn, ngI_le, ngI_lt, nng, sm10, sm8, shr_n, shl_n, and_1, fa_or, leT, leF, ltT, ltF, eqT, eqF, m_on p hp i hi, ff_i, eo, eM_s, e1]
          exact next
  · rintro t n rfl
    show fX6_walksOn_L24 isAt (nI (cell p)) C (n + 1) (nI 4) (if nbB W p 4 then nI 1 else nI 0) = _
    rw [fX6_walksOn_L24]
    simp (disch := omega) only [nm_q, bd1_some, bd2_some, bd3_some, bd4_some, bd5_some, bd6_some, bd7_some, bd8_some, bd9_some, bd10_some, bd11_some, bd1_ite, ↓reduceIte, gd_nI, gb_nI, gb_ite, li, liL, nI_add, nI_1, pk_sub, pk_mul, pk_div, nI_clamp, nI_eq, nI_leI, nI_ltI, nI_eqn, nI_neq, nI_nn, nI_len, nI_ltn, ngI_le, ngI_lt, nng, sm10, sm8, shr_n, shl_n, and_1, fa_or, leT, leF, ltT, ltF, eqT, eqF]
theorem m_next {K : KT} {W h : Nat} {st now la lh ls isAt : AI} (hK : WFk K) (hWB : WB (kW K) st) (hm : RMy K now la lh ls) (hW : W < 2 ^ 64) (hh : h ≤ 9) (hA : FA W isAt) (P : Option (AI × AI) → Prop) (C : Int32 → AI → Option (AI × AI)) (hC : ∀ f, (∀ p, p < 64 → f (cell p) = if (anN (sprd W) (clsd K h)).testBit p then nI 1 else nI 0) → P (C (nI 64) f)) (F : Nat) (hF : 64 < F) (isNext : AI) : P (fX6_walksOn_L2 st now la lh isAt (nI h) C F 0 isNext) := by
  have hcl : clsd K h < 2 ^ 64 := clsd_lt h hK (fun s hs => (hm.2 s hs).2.1)
  refine solo (fun n (t : Int32 × AI) => fX6_walksOn_L2 st now la lh isAt (nI h) C n t.1 t.2) (fun i t => t.1 = nI i ∧ ∀ p, p < i → t.2 (cell p) = if (anN (sprd W) (clsd K h)).testBit p then nI 1 else nI 0) P 64 ?_ ?_ 64 0 F (nI 0, isNext) (by omega) hF ⟨rfl, fun p hp => by omega⟩
  · rintro i ⟨x1, f⟩ n hi ⟨e1, e2⟩ ih
    simp only at e1 e2 ⊢
    subst e1
    have hc := cell_lt hi
    obtain ⟨G, hG⟩ : ∃ G, G = 4096 := ⟨_, rfl⟩
    have tb : (anN (sprd W) (clsd K h)).testBit i = (nbB W i 4 && !(clsd K h).testBit i) := by
      rw [anN_tb hcl, sprd_tb hW hi]
      simp [hi]
    have next : ∀ b : Bool, (anN (sprd W) (clsd K h)).testBit i = b → P (fX6_walksOn_L2 st now la lh isAt (nI h) C n (nI (i + 1)) (upd f (cell i) (if b then nI 1 else nI 0))) := fun b hb => ih (nI (i + 1), upd f (cell i) (if b then nI 1 else nI 0)) ⟨rfl, fun p hp => by
      show upd f (cell i) _ (cell p) = _
      by_cases c : p = i
      · rw [c, pk_us, hb]
      · rw [pk_un (fun e => c ((cell_inj (by omega) hi).mp e))]
        exact e2 p (by omega)⟩
    rw [fX6_walksOn_L2, ← hG]
    simp (disch := omega) only [nm_q, bd1_some, bd2_some, bd3_some, bd4_some, bd5_some, bd6_some, bd7_some, bd8_some, bd9_some, bd10_some, bd11_some, bd1_ite, ↓reduceIte, gd_nI, gb_nI, gb_ite, li, liL, nI_add, nI_1, pk_sub, pk_mul, pk_div, nI_clamp, nI_eq, nI_leI, nI_ltI, nI_eqn, nI_neq, nI_nn, nI_len, nI_ltn, ngI_le, ngI_lt, nng, sm10, sm8, shr_n, shl_n, and_1, fa_or, leT, leF, ltT, ltF, eqT, eqF, m_cell hi, FA_c hA hi, m_nb hA hi, m_free hK hWB hm hi hh]
    cases ea : nbB W i 4 with
    | false =>
      rw [ea] at tb
      have := next false tb
      simp (disch := omega) only [nm_q, bd1_some, bd2_some, bd3_some, bd4_some, bd5_some, bd6_some, bd7_some, bd8_some, bd9_some, bd10_some, bd11_some, bd1_ite, ↓reduceIte, gd_nI, gb_nI, gb_ite, li, liL, nI_add, nI_1, pk_sub, pk_mul, pk_div, nI_clamp, nI_eq, nI_leI, nI_ltI, nI_eqn, nI_neq, nI_nn, nI_len, nI_ltn, ngI_le, ngI_lt, nng, sm10, sm8, shr_n, shl_n, and_1, fa_or, leT, leF, ltT, ltF, eqT, eqF, ff_i, nar0n] at this ⊢
      exact this
    | true =>
      rw [ea] at tb
      cases eb : (clsd K h).testBit i with
      | true =>
        rw [eb] at tb
        have := next false tb
        simp (disch := omega) only [nm_q, bd1_some, bd2_some, bd3_some, bd4_some, bd5_some, bd6_some, bd7_some, bd8_some, bd9_some, bd10_some, bd11_some, bd1_ite, ↓reduceIte, gd_nI, gb_nI, gb_ite, li, liL, nI_add, nI_1, pk_sub, pk_mul, pk_div, nI_clamp, nI_eq, nI_leI, nI_ltI, nI_eqn, nI_neq, nI_nn, nI_len, nI_ltn, ngI_le, ngI_lt, nng, sm10, sm8, shr_n, shl_n, and_1, fa_or, leT, leF, ltT, ltF, eqT, eqF, tt_i, ff_i, nar0n] at this ⊢
        exact this
      | false =>
        rw [eb] at tb
        have := next true tb
        simp (disch := omega) only [nm_q, bd1_some, bd2_some, bd3_some, bd4_some, bd5_some, bd6_some, bd7_some, bd8_some, bd9_some, bd10_some, bd11_some, bd1_ite, ↓reduceIte, gd_nI, gb_nI, gb_ite, li, liL, nI_add, nI_1, pk_sub, pk_mul, pk_div, nI_clamp, nI_eq, nI_leI, nI_ltI, nI_eqn, nI_neq, nI_nn, nI_len, nI_ltn, ngI_le, ngI_lt, nng, sm10, sm8, shr_n, shl_n, and_1, fa_or, leT, leF, ltT, ltF, eqT, eqF, tt_i, ff_i, nar1n] at this ⊢
        exact this
  · rintro ⟨x1, f⟩ n ⟨e1, e2⟩
    simp only at e1 e2 ⊢
    subst e1
    rw [fX6_walksOn_L2]
    simp (disch := omega) only [nm_q, bd1_some, bd2_some, bd3_some, bd4_some, bd5_some, bd6_some, bd7_some, bd8_some, bd9_some, bd10_some, bd11_some, bd1_ite, ↓reduceIte, gd_nI, gb_nI, gb_ite, li, liL, nI_add, nI_1, pk_sub, pk_mul, pk_div, nI_clamp, nI_eq, nI_leI, nI_ltI, nI_eqn, nI_neq, nI_nn, nI_len, nI_ltn, ngI_le, ngI_lt, nng, sm10, sm8, shr_n, shl_n, and_1, fa_or, leT, leF, ltT, ltF, eqT, eqF]
    exact hC f e2
theorem m_take {V : Nat} {f : AI} (hf : ∀ p, p < 64 → f (cell p) = if V.testBit p then nI 1 else nI 0) (P : Option (AI × AI) → Prop) (C : Int32 → AI → Option (AI × AI)) (F : Nat) (hF : 64 < F) (isAt : AI) {W : Nat} (hA : FA W isAt) (hC : ∀ g, FA V g → P (C (nI 64) g)) : P (fX6_walksOn_L106 f C F 0 isAt) := by
  refine solo (fun n (t : Int32 × AI) => fX6_walksOn_L106 f C n t.1 t.2) (fun i t => t.1 = nI i ∧ ∀ c, c < 80 → t.2 c = if (decide (c % 10 < 8) && (if c / 10 * 8 + c % 10 < i then V else W).testBit (c / 10 * 8 + c % 10)) then nI 1 else nI 0) P 64 ?_ ?_ 64 0 F (nI 0, isAt) (by omega) hF ⟨rfl, fun c hc => by rw [if_neg (Nat.not_lt_zero _)]; exact hA c hc⟩
  · rintro i ⟨x1, g⟩ n hi ⟨e1, e2⟩ ih
    simp only at e1 e2 ⊢
    subst e1
    have hc := cell_lt hi
    rw [fX6_walksOn_L106]
    simp (disch := omega) only [nm_q, bd1_some, bd2_some, bd3_some, bd4_some, bd5_some, bd6_some, bd7_some, bd8_some, bd9_some, bd10_some, bd11_some, bd1_ite, ↓reduceIte, gd_nI, gb_nI, gb_ite, li, liL, nI_add, nI_1, pk_sub, pk_mul, pk_div, nI_clamp, nI_eq, nI_leI, nI_ltI, nI_eqn, nI_neq, nI_nn, nI_len, nI_ltn, ngI_le, ngI_lt, nng, sm10, sm8, shr_n, shl_n, and_1, fa_or, leT, leF, ltT, ltF, eqT, eqF, m_cell hi, hf i hi, nar_b]
    refine ih (nI (i + 1), _) ⟨rfl, fun c hc2 => ?_⟩
    show upd g (cell i) _ c = _
    by_cases d : c = cell i
    · subst d
      rw [pk_us, cell_m hi, cell_d hi, show i / 8 * 8 + i % 8 = i by omega, if_pos (show i < i + 1 by omega)]
      have h1 : i % 8 < 8 := by omega
      simp [h1]
    · rw [pk_un d, e2 c hc2]
      by_cases d2 : c % 10 < 8
      · have ne : c / 10 * 8 + c % 10 ≠ i := fun e => d (by unfold cell; omega)
        by_cases d3 : c / 10 * 8 + c % 10 < i
        · rw [if_pos d3, if_pos (show c / 10 * 8 + c % 10 < i + 1 by omega)]
        · rw [if_neg d3, if_neg (show ¬ c / 10 * 8 + c % 10 < i + 1 by omega)]
      · simp [d2]
  · rintro ⟨x1, g⟩ n ⟨e1, e2⟩
    simp only at e1 e2 ⊢
    subst e1
    rw [fX6_walksOn_L106]
    simp (disch := omega) only [nm_q, bd1_some, bd2_some, bd3_some, bd4_some, bd5_some, bd6_some, bd7_some, bd8_some, bd9_some, bd10_some, bd11_some, bd1_ite, ↓reduceIte, gd_nI, gb_nI, gb_ite, li, liL, nI_add, nI_1, pk_sub, pk_mul, pk_div, nI_clamp, nI_eq, nI_leI, nI_ltI, nI_eqn, nI_neq, nI_nn, nI_len, nI_ltn, ngI_le, ngI_lt, nng, sm10, sm8, shr_n, shl_n, and_1, fa_or, leT, leF, ltT, ltF, eqT, eqF]
    refine hC g fun c hc => ?_
    rw [e2 c hc]
    by_cases d2 : c % 10 < 8
    · rw [if_pos (show c / 10 * 8 + c % 10 < 64 by omega)]
    · simp [d2]
theorem m_walksOn {K : KT} {W h : Nat} {st now la lh ls isAt : AI} (isNext : AI) (hK : WFk K) (hWB : WB (kW K) st) (hm : RMy K now la lh ls) (hW : W < 2 ^ 64) (hh : h ≤ 9) (hA : FA W isAt) : ∃ isAt' isNext', fX6_walksOn (nI h) st now la lh isAt isNext = some (isAt', isNext') ∧ FA (anN (sprd W) (clsd K h)) isAt' := by
  obtain ⟨F, hF⟩ : ∃ F, F = 4096 := ⟨_, rfl⟩
  rw [fX6_walksOn, ← hF]
  refine m_next hK hWB hm hW hh hA (fun x => ∃ isAt' isNext', x = some (isAt', isNext') ∧ FA (anN (sprd W) (clsd K h)) isAt') _ ?_ F (by omega) isNext
  intro f hf
  refine m_take hf (fun x => ∃ isAt' isNext', x = some (isAt', isNext') ∧ FA (anN (sprd W) (clsd K h)) isAt') _ F (by omega) isAt hA ?_
  intro g hg
  exact ⟨_, _, rfl, hg⟩
theorem m_noneAt (it : AI) (C : Int32 → AI → Option (AI × AI × AI × AI × AI)) (F : Nat) (hF : 80 < F) : fX6_beginsWalk_L6 C F 0 it = C (nI 80) (fa_fill (fun _ => nI 0) it 80) := by
  refine solo (fun n (t : Int32 × AI) => fX6_beginsWalk_L6 C n t.1 t.2) (fun i t => t = (nI i, fa_fill (fun _ => nI 0) it i)) (fun x => x = C (nI 80) (fa_fill (fun _ => nI 0) it 80)) 80 ?_ ?_ 80 0 F (nI 0, it) (by omega) (by omega) (by rw [fa_fill_0])
  · rintro i t n hi rfl ih
    have := ih _ rfl
    rw [← fa_fill_succ] at this
    show fX6_beginsWalk_L6 C (n + 1) (nI i) (fa_fill (fun _ => nI 0) it i) = _
    rw [fX6_beginsWalk_L6]
    simp (disch := omega) only [nar0, nm_q, bd1_some, bd2_some, bd3_some, bd4_some, bd5_some, bd6_some, bd7_some, bd8_some, bd9_some, bd10_some, bd11_some, bd1_ite, ↓reduceIte, gd_nI, gb_nI, gb_ite, li, liL, nI_add, nI_1, pk_sub, pk_mul, pk_div, nI_clamp, nI_eq, nI_leI, nI_ltI, nI_eqn, nI_neq, nI_nn, nI_len, nI_ltn, ngI_le, ngI_lt, nng, sm10, sm8, shr_n, shl_n, and_1, fa_or, leT, leF, ltT, ltF, eqT, eqF]
    exact this
  · rintro t n rfl
    show fX6_beginsWalk_L6 C (n + 1) (nI 80) (fa_fill (fun _ => nI 0) it 80) = _
    rw [fX6_beginsWalk_L6]
    simp (disch := omega) only [nm_q, bd1_some, bd2_some, bd3_some, bd4_some, bd5_some, bd6_some, bd7_some, bd8_some, bd9_some, bd10_some, bd11_some, bd1_ite, ↓reduceIte, gd_nI, gb_nI, gb_ite, li, liL, nI_add, nI_1, pk_sub, pk_mul, pk_div, nI_clamp, nI_eq, nI_leI, nI_ltI, nI_eqn, nI_neq, nI_nn, nI_len, nI_ltn, ngI_le, ngI_lt, nng, sm10, sm8, shr_n, shl_n, and_1, fa_or, leT, leF, ltT, ltF, eqT, eqF]
theorem m_beginW {K : KT} {st : AI} {h : Int32} {q : Nat} (now la lh ls isAt : AI) (hK : WFk K) (hm : RCm K st 0 h) (hq : q < 64) : ∃ now' la' lh' ls' isAt', fX6_beginsWalk (nI (cell q)) st now la lh ls isAt = some (now', la', lh', ls', isAt') ∧ RMy K now' la' lh' ls' ∧ FA (anN (2 ^ q) (clsd K 0)) isAt' := by
  obtain ⟨n', la', lh', ls', k1, k2⟩ := m_asIs now la lh ls hK hm
  obtain ⟨F, hF⟩ : ∃ F, F = 4096 := ⟨_, rfl⟩
  have hWB : WB (kW K) st := fun x hx => (RCm0 hm).1 x hx
  have hcl : clsd K 0 < 2 ^ 64 := clsd_lt 0 hK (fun s hs => (k2.2 s hs).2.1)
  have hc := cell_lt hq
  have e1 : fX6_isFree (nI (cell q)) 0 st n' la' lh' = some (if (clsd K 0).testBit q then nI 0 else nI 1) := m_free (h := 0) hK hWB k2 hq (by omega)
  refine ⟨n', la', lh', ls', upd (fa_fill (fun _ => nI 0) isAt 80) (cell q) (if (clsd K 0).testBit q then nI 0 else nI 1), ?_, k2, ?_⟩
  · rw [fX6_beginsWalk, k1, bd4_some, ← hF, m_noneAt _ _ F (by omega), e1, bd1_some, gd_nI _ (by omega) (by omega), nm_q, nI_clamp (by omega)]
    cases (clsd K 0).testBit q <;> rfl
  · intro c hc2
    have tb : ∀ i, (anN (2 ^ q) (clsd K 0)).testBit i = (decide (q = i) && (decide (i < 64) && !(clsd K 0).testBit i)) := fun i => by rw [anN_tb hcl, Nat.testBit_two_pow]
    rw [tb]
    by_cases d : c = cell q
    · subst d
      rw [pk_us, cell_m hq, cell_d hq, show q / 8 * 8 + q % 8 = q by omega]
      have h1 : q % 8 < 8 := by omega
      cases (clsd K 0).testBit q
      · simp [h1, hq]
      · simp [h1, hq]
    · rw [pk_un d, fa_fill_in hc2]
      by_cases d2 : c % 10 < 8
      · have ne : ¬ q = c / 10 * 8 + c % 10 := fun e => d (by unfold cell; omega)
        simp [ne]
      · simp [d2]
/-- one answer of walk and walks on both sides -/
def T7 (x : Option (Int32 × DT)) (y : Option (Int32 × AI × AI × AI × AI × AI × AI)) : Prop := ∃ (res : Int32) (da : DT) (now la lh ls a b : AI), x = some (res, da) ∧ y = some (res, now, la, lh, ls, a, b)
theorem T7_i {res : Int32} {da : DT} {now la lh ls a b : AI} : T7 (some (res, da)) (some (res, now, la, lh, ls, a, b)) := ⟨_, _, _, _, _, _, _, _, rfl, rfl⟩
theorem walk_lk {K : KT} {nw : CT} {d : DT} {st now la lh ls : AI} {q : Nat} (v : VT) (hK : WFk K) (hc : RCc K nw) (hWB : WB (kW K) st) (hd : RDy K d) (hm : RMy K now la lh ls) (hq : q < 64) (F : Nat) (hF : 10 < F) (W : Nat) (hW : W < 2 ^ 64) (isAt isNext : AI) (hA : FA W isAt) : T7 (fX5_walk_L42 v nw d (nI q) (fun v13 v14 => some (-4, d)) F 0 (lN W)) (fX6_walk_L23 st (nI (cell q)) now la lh ls (fun v13 isAt_14 isNext_15 => some (-4, now, la, lh, ls, isAt_14, isNext_15)) F 0 isAt isNext) := by
  have hcl := cell_lt hq
  generalize hCA : (fun (v13 : Int32) (v14 : Int64) => (some (-4, d) : Option (Int32 × DT))) = A
  generalize hCB : (fun (v13 : Int32) (isAt_14 isNext_15 : AI) => (some (-4, now, la, lh, ls, isAt_14, isNext_15) : Option (Int32 × AI × AI × AI × AI × AI × AI))) = B
  refine lock (fun n (t : Int32 × Int64) => fX5_walk_L42 v nw d (nI q) A n t.1 t.2) (fun n (t : Int32 × AI × AI) => fX6_walk_L23 st (nI (cell q)) now la lh ls B n t.1 t.2.1 t.2.2) (fun i x y => x.1 = nI i ∧ y.1 = nI i ∧ ∃ W, W < 2 ^ 64 ∧ x.2 = lN W ∧ FA W y.2.1) T7 10 ?_ ?_ 10 0 F F (0, lN W) (0, isAt, isNext) (by omega) hF hF ⟨rfl, rfl, W, hW, rfl, hA⟩
  · rintro i ⟨x1, x2⟩ ⟨y1, a, b⟩ n m hi ⟨e1, e2, W, e3, e4, e5⟩ ih
    simp only at e1 e2 e4 e5 ⊢
    subst e1 e2 e4
    rw [fX5_walk_L42, fX6_walk_L23]
    have fin : ∀ (V : Nat) (a b : AI), V < 2 ^ 64 → FA V a → T7 (bd1 (fX3_has (lN V) (nI q)) fun r20 => if r20 = nI 0 then fX5_walk_L42 v nw d (nI q) A n (nI (i + 1)) (lN V) else some (nI i, d)) (if a (cell q) = nI 0 then fX6_walk_L23 st (nI (cell q)) now la lh ls B m (nI (i + 1)) a b else some (nI i, now, la, lh, ls, a, b)) := by
      intro V a b hV ha
      rw [c_has hV hq, bd1_some, FA_c ha hq]
      cases V.testBit q with
      | true => exact T7_i
      | false => exact ih (nI (i + 1), lN V) (nI (i + 1), a, b) ⟨rfl, rfl, V, hV, rfl, ha⟩
    by_cases c : i = 0
    · subst c
      simp (disch := omega) only [nm_q, bd1_some, bd2_some, bd3_some, bd4_some, bd5_some, bd6_some, bd7_some, bd8_some, bd9_some, bd10_some, bd11_some, bd1_ite, ↓reduceIte, gd_nI, gb_nI, gb_ite, li, liL, nI_add, nI_1, pk_sub, pk_mul, pk_div, nI_clamp, nI_eq, nI_leI, nI_ltI, nI_eqn, nI_neq, nI_nn, nI_len, nI_ltn, ngI_le, ngI_lt, nng, sm10, sm8, shr_n, shl_n, and_1, fa_or, leT, leF, ltT, ltF, eqT, eqF]
      exact fin W a b e3 e5
    · obtain ⟨a', b', k1, k2⟩ := m_walksOn b hK hWB hm e3 (show i ≤ 9 by omega) e5
      simp (disch := omega) only [nm_q, bd1_some, bd2_some, bd3_some, bd4_some, bd5_some, bd6_some, bd7_some, bd8_some, bd9_some, bd10_some, bd11_some, bd1_ite, ↓reduceIte, gd_nI, gb_nI, gb_ite, li, liL, nI_add, nI_1, pk_sub, pk_mul, pk_div, nI_clamp, nI_eq, nI_leI, nI_ltI, nI_eqn, nI_neq, nI_nn, nI_len, nI_ltn, ngI_le, ngI_lt, nng, sm10, sm8, shr_n, shl_n, and_1, fa_or, leT, leF, ltT, ltF, eqT, eqF, c_goOn v hd hK hc e3 (show i ≤ 9 by omega), k1]
      exact fin _ a' b' (anN_lt _ _) k2
  · rintro ⟨x1, x2⟩ ⟨y1, a, b⟩ n m ⟨e1, e2, W, e3, e4, e5⟩
    simp only at e1 e2 e4 e5 ⊢
    subst e1 e2 e4
    rw [fX5_walk_L42, fX6_walk_L23]
    simp (disch := omega) only [nm_q, bd1_some, bd2_some, bd3_some, bd4_some, bd5_some, bd6_some, bd7_some, bd8_some, bd9_some, bd10_some, bd11_some, bd1_ite, ↓reduceIte, gd_nI, gb_nI, gb_ite, li, liL, nI_add, nI_1, pk_sub, pk_mul, pk_div, nI_clamp, nI_eq, nI_leI, nI_ltI, nI_eqn, nI_neq, nI_nn, nI_len, nI_ltn, ngI_le, ngI_lt, nng, sm10, sm8, shr_n, shl_n, and_1, fa_or, leT, leF, ltT, ltF, eqT, eqF]
    rw [← hCA, ← hCB]
    exact T7_i
theorem ev_walk (v : VT) (rd : RT) (dr : CT) (nw : CT) (tr : CT) (da : DT) (i0 : CT) (i1 : CT) (s0 : ST) (s1 : ST) (s2 : ST) (s3 : ST) (st : AI) (now : AI) (isKept : AI) (hearers : Int32) (draft : AI) (dHearers : Int32) (dWalls : Int32) (toldWinds : Int32) (tape : AI) (taped : Int32) (pos : Int32) (frm : Int32) (sort : Int32) (value : Int32) (fault : Int32) (wrongAt : Int32) (landed : AI) (landedIn : AI) (stepped : AI) (isThere : AI) (isAt : AI) (isNext : AI) (landSum : Int64) (heardSum : Int64) (allWays : Int64) (ways : AI) (drawn : AI) (lanes : AI) (sizes : AI) (cells : AI) (torn : Int32) (before : AI) (hR : Rel v rd nw i0 i1 s0 s1 s2 s3 st isKept hearers tape taped fault lanes sizes cells torn) (p1 : Int32) (p2 : Int32) : ∃ (res : Int32) (da_x : DT) (now_x : AI) (landed_x : AI) (landedIn_x : AI) (stepped_x : AI) (isAt_x : AI) (isNext_x : AI), fX5_walk p1 p2 v nw da = some (res, da_x) ∧ fX6_walk p1 p2 st now landed landedIn stepped isAt isNext = some (res, now_x, landed_x, landedIn_x, stepped_x, isAt_x, isNext_x) ∧ (Rel v rd nw i0 i1 s0 s1 s2 s3 st isKept hearers tape taped fault lanes sizes cells torn) := by
  have hR0 := hR
  obtain ⟨⟨K, hK, hc, hm⟩, r0, r1, rt, rf, q0, q1, q2, q3, rl⟩ := hR
  have hWB : WB (kW K) st := fun x hx => (RCm0 hm).1 x hx
  rcases isC p1 with ⟨p, hp, rfl, f1, f2⟩ | ⟨f1, f2⟩
  · rcases isC p2 with ⟨q, hq, rfl, g1, g2⟩ | ⟨g1, g2⟩
    · have key : T7 (fX5_walk (nI (cell p)) (nI (cell q)) v nw da) (fX6_walk (nI (cell p)) (nI (cell q)) st now landed landedIn stepped isAt isNext) := by
        obtain ⟨F, hF⟩ : ∃ F, F = 4096 := ⟨_, rfl⟩
        obtain ⟨d', k1, k2⟩ := c_day da hK hc
        obtain ⟨n', la', lh', ls', at', j1, j2, j3⟩ := m_beginW now landed landedIn stepped isAt hK hm hp
        rw [fX5_walk, f1, bd1_some, if_neg (show ¬ nI 1 = 0 from n10), g1, bd1_some, if_neg (show ¬ nI 1 = 0 from n10), k1, bd1_some, c_place hq, bd1_some, c_beginW v k2 hK hc hp, bd1_some, fX6_walk, f2, bd1_some, if_neg (show ¬ nI 1 = 0 from n10), g2, bd1_some, if_neg (show ¬ nI 1 = 0 from n10), j1, bd5_some, ← hF]
        exact walk_lk v hK hc hWB k2 j2 hq F (by omega) _ (anN_lt _ _) at' isNext j3
      obtain ⟨res, a1, a2, a3, a4, a5, a6, a7, e1, e2⟩ := key
      exact ⟨res, a1, a2, a3, a4, a5, a6, a7, e1, e2, hR0⟩
    · refine ⟨-nI 1, da, now, landed, landedIn, stepped, isAt, isNext, ?_, ?_, hR0⟩
      · rw [fX5_walk, f1, bd1_some, if_neg (show ¬ nI 1 = 0 from n10), g1]; rfl
      · rw [fX6_walk, f2, bd1_some, if_neg (show ¬ nI 1 = 0 from n10), g2]; rfl
  · refine ⟨-nI 1, da, now, landed, landedIn, stepped, isAt, isNext, ?_, ?_, hR0⟩
    · rw [fX5_walk, f1]; rfl
    · rw [fX6_walk, f2]; rfl
theorem ct_names (W : Nat) : ∀ x, ct (fun c => decide (c % 10 < 8) && W.testBit (c / 10 * 8 + c % 10)) (10 * x) = ct (fun k => W.testBit k) (8 * x)
  | 0 => rfl
  | x + 1 => by
    rw [Nat.mul_add, Nat.mul_one, ct_split, ct_names W x, Nat.mul_add, Nat.mul_one, ct_split]
    congr 1
    rw [show (10 : Nat) = 8 + 2 from rfl, ct_split]
    have z : ct (fun k => decide (((8 + 2) * x + (8 + k)) % (8 + 2) < 8) && W.testBit (((8 + 2) * x + (8 + k)) / (8 + 2) * 8 + ((8 + 2) * x + (8 + k)) % (8 + 2))) 2 = ct (fun _ => false) 2 := ct_cong fun k hk => by
      have : ¬ ((8 + 2) * x + (8 + k)) % (8 + 2) < 8 := by omega
      rw [decide_eq_false this]
      rfl
    rw [z]
    show _ + 0 = _
    rw [Nat.add_zero]
    refine ct_cong fun k hk => ?_
    have h1 : ((8 + 2) * x + k) % (8 + 2) = k := by omega
    have h2 : ((8 + 2) * x + k) / (8 + 2) * 8 + k = 8 * x + k := by omega
    rw [h1, h2]
    simp [hk]
theorem m_cntAt {W : Nat} {g : AI} (hA : FA W g) (C : Int32 → Int32 → Option (Int32 × AI × AI × AI × AI × AI × AI)) (F : Nat) (hF : 80 < F) : fX6_walks_L37 g C F 0 0 = C (nI 80) (nI (pcnt W)) := by
  have e : pcnt W = ct (fun c => decide (c % 10 < 8) && W.testBit (c / 10 * 8 + c % 10)) 80 := (ct_names W 8).symm
  rw [e]
  refine solo (fun n (t : Int32 × Int32) => fX6_walks_L37 g C n t.1 t.2) (fun i t => t = (nI i, nI (ct (fun c => decide (c % 10 < 8) && W.testBit (c / 10 * 8 + c % 10)) i))) (fun x => x = C (nI 80) (nI (ct (fun c => decide (c % 10 < 8) && W.testBit (c / 10 * 8 + c % 10)) 80))) 80 ?_ ?_ 80 0 F (nI 0, nI 0) (by omega) hF rfl
  · rintro i t n hi rfl ih
    have := ih _ rfl
    rw [ct] at this
    show fX6_walks_L37 g C (n + 1) (nI i) (nI (ct (fun c => decide (c % 10 < 8) && W.testBit (c / 10 * 8 + c % 10)) i)) = _
    rw [fX6_walks_L37]
    have a1 := hA i hi
    cases eb : (decide (i % 10 < 8) && W.testBit (i / 10 * 8 + i % 10)) with
    | true =>
      rw [eb] at a1
      rw [if_pos eb] at this
      simp (disch := omega) only [nm_q, bd1_some, bd2_some, bd3_some, bd4_some, bd5_some, bd6_some, bd7_some, bd8_some, bd9_some, bd10_some, bd11_some, bd1_ite, ↓reduceIte, gd_nI, gb_nI, gb_ite, li, liL, nI_add, nI_1, pk_sub, pk_mul, pk_div, nI_clamp, nI_eq, nI_leI, nI_ltI, nI_eqn, nI_neq, nI_nn, nI_len, nI_ltn, ngI_le, ngI_lt, nng, sm10, sm8, shr_n, shl_n, and_1, fa_or, leT, leF, ltT, ltF, eqT, eqF, a1, tt_i, shl_1, shl_0, Nat.zero_mul, Nat.or_zero, Nat.one_mul, Nat.add_zero, flag_1, flag_0]
      exact this
    | false =>
      rw [eb] at a1
      rw [if_neg (by rw [eb]; decide), Nat.add_zero] at this
      simp (disch := omega) only [nm_q, bd1_some, bd2_some, bd3_some, bd4_some, bd5_some, bd6_some, bd7_some, bd8_some, bd9_some, bd10_some, bd11_some, bd1_ite, ↓reduceIte, gd_nI, gb_nI, gb_ite, li, liL, nI_add, nI_1, pk_sub, pk_mul, pk_div, nI_clamp, nI_eq, nI_leI, nI_ltI, nI_eqn, nI_neq, nI_nn, nI_len, nI_ltn, ngI_le, ngI_lt, nng, sm10, sm8, shr_n, shl_n, and_1, fa_or, leT, leF, ltT, ltF, eqT, eqF, a1, ff_i, shl_1, shl_0, Nat.zero_mul, Nat.or_zero, Nat.one_mul, Nat.add_zero, flag_1, flag_0]
      exact this
  · rintro t n rfl
    show fX6_walks_L37 g C (n + 1) (nI 80) (nI (ct (fun c => decide (c % 10 < 8) && W.testBit (c / 10 * 8 + c % 10)) 80)) = _
    rw [fX6_walks_L37]
    simp (disch := omega) only [nm_q, bd1_some, bd2_some, bd3_some, bd4_some, bd5_some, bd6_some, bd7_some, bd8_some, bd9_some, bd10_some, bd11_some, bd1_ite, ↓reduceIte, gd_nI, gb_nI, gb_ite, li, liL, nI_add, nI_1, pk_sub, pk_mul, pk_div, nI_clamp, nI_eq, nI_leI, nI_ltI, nI_eqn, nI_neq, nI_nn, nI_len, nI_ltn, ngI_le, ngI_lt, nng, sm10, sm8, shr_n, shl_n, and_1, fa_or, leT, leF, ltT, ltF, eqT, eqF]
theorem walks_lk {K : KT} {nw : CT} {d : DT} {st now la lh ls : AI} (v : VT) (hK : WFk K) (hc : RCc K nw) (hWB : WB (kW K) st) (hd : RDy K d) (hm : RMy K now la lh ls) (A : Int32 → Int64 → Option (Int32 × DT)) (B : Int32 → AI → AI → Option (Int32 × AI × AI × AI × AI × AI × AI)) (hE : ∀ a W f g, W < 2 ^ 64 → FA W f → T7 (A a (lN W)) (B a f g)) (F : Nat) (hF : 10 < F) (W : Nat) (hW : W < 2 ^ 64) (isAt isNext : AI) (hA : FA W isAt) : T7 (fX5_walks_L29 v nw d A F 1 (lN W)) (fX6_walks_L18 st now la lh B F 1 isAt isNext) := by
  refine lock (fun n (t : Int32 × Int64) => fX5_walks_L29 v nw d A n t.1 t.2) (fun n (t : Int32 × AI × AI) => fX6_walks_L18 st now la lh B n t.1 t.2.1 t.2.2) (fun i x y => x.1 = nI i ∧ y.1 = nI i ∧ ∃ W, W < 2 ^ 64 ∧ x.2 = lN W ∧ FA W y.2.1) T7 10 ?_ ?_ 9 1 F F (1, lN W) (1, isAt, isNext) (by omega) (by omega) (by omega) ⟨rfl, rfl, W, hW, rfl, hA⟩
  · rintro i ⟨x1, x2⟩ ⟨y1, a, b⟩ n m hi ⟨e1, e2, W, e3, e4, e5⟩ ih
    simp only at e1 e2 e4 e5 ⊢
    subst e1 e2 e4
    rw [fX5_walks_L29, fX6_walks_L18]
    obtain ⟨a', b', k1, k2⟩ := m_walksOn b hK hWB hm e3 (show i ≤ 9 by omega) e5
    simp (disch := omega) only [nm_q, bd1_some, bd2_some, bd3_some, bd4_some, bd5_some, bd6_some, bd7_some, bd8_some, bd9_some, bd10_some, bd11_some, bd1_ite, ↓reduceIte, gd_nI, gb_nI, gb_ite, li, liL, nI_add, nI_1, pk_sub, pk_mul, pk_div, nI_clamp, nI_eq, nI_leI, nI_ltI, nI_eqn, nI_neq, nI_nn, nI_len, nI_ltn, ngI_le, ngI_lt, nng, sm10, sm8, shr_n, shl_n, and_1, fa_or, leT, leF, ltT, ltF, eqT, eqF, c_goOn v hd hK hc e3 (show i ≤ 9 by omega), k1]
    exact ih (nI (i + 1), _) (nI (i + 1), a', b') ⟨rfl, rfl, _, anN_lt _ _, rfl, k2⟩
  · rintro ⟨x1, x2⟩ ⟨y1, a, b⟩ n m ⟨e1, e2, W, e3, e4, e5⟩
    simp only at e1 e2 e4 e5 ⊢
    subst e1 e2 e4
    rw [fX5_walks_L29, fX6_walks_L18]
    simp (disch := omega) only [nm_q, bd1_some, bd2_some, bd3_some, bd4_some, bd5_some, bd6_some, bd7_some, bd8_some, bd9_some, bd10_some, bd11_some, bd1_ite, ↓reduceIte, gd_nI, gb_nI, gb_ite, li, liL, nI_add, nI_1, pk_sub, pk_mul, pk_div, nI_clamp, nI_eq, nI_leI, nI_ltI, nI_eqn, nI_neq, nI_nn, nI_len, nI_ltn, ngI_le, ngI_lt, nng, sm10, sm8, shr_n, shl_n, and_1, fa_or, leT, leF, ltT, ltF, eqT, eqF]
    exact hE _ _ _ _ e3 e5
theorem ev_walks (v : VT) (rd : RT) (dr : CT) (nw : CT) (tr : CT) (da : DT) (i0 : CT) (i1 : CT) (s0 : ST) (s1 : ST) (s2 : ST) (s3 : ST) (st : AI) (now : AI) (isKept : AI) (hearers : Int32) (draft : AI) (dHearers : Int32) (dWalls : Int32) (toldWinds : Int32) (tape : AI) (taped : Int32) (pos : Int32) (frm : Int32) (sort : Int32) (value : Int32) (fault : Int32) (wrongAt : Int32) (landed : AI) (landedIn : AI) (stepped : AI) (isThere : AI) (isAt : AI) (isNext : AI) (landSum : Int64) (heardSum : Int64) (allWays : Int64) (ways : AI) (drawn : AI) (lanes : AI) (sizes : AI) (cells : AI) (torn : Int32) (before : AI) (hR : Rel v rd nw i0 i1 s0 s1 s2 s3 st isKept hearers tape taped fault lanes sizes cells torn) (p1 : Int32) : ∃ (res : Int32) (da_x : DT) (now_x : AI) (landed_x : AI) (landedIn_x : AI) (stepped_x : AI) (isAt_x : AI) (isNext_x : AI), fX5_walks p1 v nw da = some (res, da_x) ∧ fX6_walks p1 st now landed landedIn stepped isAt isNext = some (res, now_x, landed_x, landedIn_x, stepped_x, isAt_x, isNext_x) ∧ (Rel v rd nw i0 i1 s0 s1 s2 s3 st isKept hearers tape taped fault lanes sizes cells torn) := by
  have hR0 := hR
  obtain ⟨⟨K, hK, hc, hm⟩, r0, r1, rt, rf, q0, q1, q2, q3, rl⟩ := hR
  have hWB : WB (kW K) st := fun x hx => (RCm0 hm).1 x hx
  rcases isC p1 with ⟨p, hp, rfl, f1, f2⟩ | ⟨f1, f2⟩
  · have key : T7 (fX5_walks (nI (cell p)) v nw da) (fX6_walks (nI (cell p)) st now landed landedIn stepped isAt isNext) := by
      obtain ⟨F, hF⟩ : ∃ F, F = 4096 := ⟨_, rfl⟩
      obtain ⟨d', k1, k2⟩ := c_day da hK hc
      obtain ⟨n', la', lh', ls', at', j1, j2, j3⟩ := m_beginW now landed landedIn stepped isAt hK hm hp
      rw [fX5_walks, f1, bd1_some, if_neg (show ¬ nI 1 = 0 from n10), k1, bd1_some, c_beginW v k2 hK hc hp, bd1_some, fX6_walks, f2, bd1_some, if_neg (show ¬ nI 1 = 0 from n10), j1, bd5_some, ← hF]
      refine walks_lk v hK hc hWB k2 j2 _ _ ?_ F (by omega) _ (anN_lt _ _) at' isNext j3
      intro a W f g hW hf
      rw [c_pop hW, bd1_some, m_cntAt hf _ F (by omega)]
      exact T7_i
    obtain ⟨res, a1, a2, a3, a4, a5, a6, a7, e1, e2⟩ := key
    exact ⟨res, a1, a2, a3, a4, a5, a6, a7, e1, e2, hR0⟩
  · refine ⟨-nI 1, da, now, landed, landedIn, stepped, isAt, isNext, ?_, ?_, hR0⟩
    · rw [fX5_walks, f1]; rfl
    · rw [fX6_walks, f2]; rfl
