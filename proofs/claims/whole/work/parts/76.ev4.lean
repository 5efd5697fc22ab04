-- WALLS set and cleared
theorem ct_sub {p q : Nat → Bool} : ∀ {n : Nat}, (∀ k, k < n → p k = true → q k = true) → ct p n ≤ ct q n
  | 0, _ => Nat.le_refl _
  | n + 1, h => by
    have := ct_sub (n := n) (fun k hk => h k (by omega))
    rw [ct, ct]
    by_cases c : p n = true
    · rw [if_pos c, if_pos (h n (by omega) c)]; omega
    · rw [if_neg c]; omega
theorem ct_one {p q : Nat → Bool} {j : Nat} : ∀ {n : Nat}, (∀ k, k < n → k ≠ j → p k = q k) → ct p n ≤ ct q n + 1
  | 0, _ => Nat.le_add_right _ _
  | n + 1, h => by
    rw [ct, ct]
    by_cases c : n = j
    · rw [ct_cong (p := p) (q := q) (fun k hk => h k (by omega) (by omega))]
      split <;> omega
    · have := ct_one (n := n) (fun k hk => h k (by omega))
      rw [h n (by omega) c]
      omega
theorem pc_set {W p : Nat} : pcnt (W ||| 2 ^ p) ≤ pcnt W + 1 := ct_one (j := p) fun k _ hk => by
  rw [fb_bit_set]
  simp [hk]
theorem pc_same {W p : Nat} (h : W.testBit p = true) : W ||| 2 ^ p = W := by
  apply Nat.eq_of_testBit_eq
  intro i
  rw [fb_bit_set]
  by_cases c : i = p
  · subst c; simp [h]
  · simp [c]
def clr (n W p : Nat) : Nat := W &&& (2 ^ n - (2 ^ p + 1))
theorem clr_tb {n W p i : Nat} (hp : p < n) : (clr n W p).testBit i = (W.testBit i && (decide (i < n) && !decide (p = i))) := by
  unfold clr
  rw [Nat.testBit_and, Nat.testBit_two_pow_sub_succ (Nat.pow_lt_pow_right (by omega) hp), Nat.testBit_two_pow]
theorem xor_full {n a : Nat} (ha : a < 2 ^ n) : a ^^^ (2 ^ n - 1) = 2 ^ n - (a + 1) := by
  apply Nat.eq_of_testBit_eq
  intro i
  rw [Nat.testBit_xor, Nat.testBit_two_pow_sub_one, Nat.testBit_two_pow_sub_succ ha]
  by_cases c : i < n
  · simp [c]
  · have : a.testBit i = false := Nat.testBit_lt_two_pow (Nat.lt_of_lt_of_le ha (Nat.pow_le_pow_right (by omega) (by omega)))
    simp [c, this]
theorem pc_clr {W p : Nat} (hp : p < 64) : pcnt (clr 64 W p) ≤ pcnt W := ct_sub fun k _ h => by
  rw [clr_tb hp] at h
  simp at h
  exact h.1
theorem clr_lt {W p : Nat} (hW : W < 2 ^ 64) : clr 64 W p < 2 ^ 64 := Nat.lt_of_le_of_lt Nat.and_le_left hW
theorem c_clr {W p : Nat} (hp : p < 64) : lN W &&& (lN 1 <<< ((nI p).toInt64 &&& lN 63) ^^^ -lN 1) = lN (clr 64 W p) := by
  rw [show lN 63 = (63 : Int64) from rfl, wb_shl 1 hp, Nat.one_mul, show (-lN 1 : Int64) = lN (2 ^ 64 - 1) by decide, fb_xorL, xor_full (Nat.pow_lt_pow_right (by omega) hp), fb_andL]
  rfl
theorem c_set {W p : Nat} (hp : p < 64) : lN W ||| lN 1 <<< ((nI p).toInt64 &&& lN 63) = lN (W ||| 2 ^ p) := by
  rw [show lN 63 = (63 : Int64) from rfl, wb_shl 1 hp, Nat.one_mul, fb_orL]
theorem m_clr {b y : Nat} (hy : y < 31) : nI b &&& (nI (2 ^ y) ^^^ -nI 1) = nI (clr 32 b y) := by
  rw [show (-nI 1 : Int32) = nI (2 ^ 32 - 1) by decide, fb_xorI, xor_full (Nat.pow_lt_pow_right (by omega) (by omega)), fa_and]
  rfl
theorem wb_clr {W p x : Nat} (hp : p < 64) : (clr 64 W p) / 2 ^ (8 * x) % 256 = if x = p / 8 then clr 32 (W / 2 ^ (8 * x) % 256) (p % 8) else if x < 8 then W / 2 ^ (8 * x) % 256 else (clr 64 W p) / 2 ^ (8 * x) % 256 := by
  by_cases c8 : x < 8
  · rw [if_pos c8]
    have e : ∀ V i, (V / 2 ^ (8 * x) % 256).testBit i = (decide (i < 8) && V.testBit (8 * x + i)) := fun V i => by
      show (V / 2 ^ (8 * x) % 2 ^ 8).testBit i = _
      rw [Nat.testBit_mod_two_pow, Nat.testBit_div_two_pow, Nat.add_comm]
    apply Nat.eq_of_testBit_eq
    intro i
    rw [e, clr_tb hp]
    by_cases c : x = p / 8
    · rw [if_pos c, clr_tb (by omega), e]
      by_cases ci : i < 8
      · have h1 : decide (p = 8 * x + i) = decide (p % 8 = i) := by congr 1; exact propext ⟨fun _ => by omega, fun _ => by omega⟩
        have h2 : 8 * x + i < 64 := by omega
        have h3 : i < 32 := by omega
        rw [h1]
        simp [ci, h2, h3]
      · simp [ci]
    · rw [if_neg c, e]
      by_cases ci : i < 8
      · have h1 : ¬ p = 8 * x + i := by omega
        have h2 : 8 * x + i < 64 := by omega
        simp [h1, h2]
      · simp [ci]
  · rw [if_neg c8, if_neg (by omega)]
theorem RCm_move {K : KT} {st st' : AI} {o o' : Nat} {h : Int32} (hK : WFk K) (e : ∀ j, j < 61 → st' (o' + j) = st (o + j)) (r : RCm K st o h) : RCm K st' o' h := by
  obtain ⟨r1, r2, r3, r4, r5, r6, r7, r8, r9⟩ := r
  have hN := WF_N hK
  have hH : kH K ≤ 4 := hK.2.2.2.2.2.1
  have hS : kS K ≤ 6 := hK.2.2.2.2.2.2.2.1
  refine ⟨fun x hx => ?_, fun x hx => ?_, ?_, fun s hs k hk => ?_, r5, fun x hx => ?_, ?_, fun x hx => ?_, fun x hx => ?_⟩
  · rw [e _ (by omega)]; exact r1 x hx
  · rw [e _ (by omega)]; exact r2 x hx
  · rw [e _ (by omega)]; exact r3
  · rw [e _ (by omega)]; exact r4 s hs k hk
  · rw [e _ (by omega)]; exact r6 x hx
  · rw [e _ (by omega)]; exact r7
  · rw [e _ (by omega)]; exact r8 x hx
  · rw [e _ (by omega)]; exact r9 x hx
theorem RCm_wall {K : KT} {st : AI} {h : Int32} {W' x b : Nat} (hK : WFk K) (r : RCm K st 0 h) (hx : x < 8) (hb : ∀ y, y < 8 → W' / 2 ^ (8 * y) % 256 = if y = x then b else kW K / 2 ^ (8 * y) % 256) : RCm (setW K W') (upd st x (nI b)) 0 h := by
  have hN := WF_N hK
  have hH := WF_H hK
  have hS := WF_S hK
  obtain ⟨r1, r2, r3, r4, r5, r6, r7, r8, r9⟩ := RCm0 r
  unfold RCm
  simp only [Nat.zero_add]
  refine ⟨fun y hy => ?_, fun y hy => ?_, ?_, fun u hu j hj => ?_, r5, fun y hy => ?_, ?_, fun y hy => ?_, fun y hy => ?_⟩
  · show _ = nI (W' / 2 ^ (8 * y) % 256)
    rw [hb y hy]
    by_cases c : y = x
    · rw [if_pos c, c, pk_us]
    · rw [if_neg c, pk_un c]; exact r1 y hy
  · rw [pk_un (by omega)]; exact r2 y hy
  · rw [pk_un (by omega)]; exact r3
  · rw [pk_un (by omega)]; exact r4 u hu j hj
  · rw [pk_un (by omega)]; exact r6 y hy
  · rw [pk_un (by omega)]; exact r7
  · rw [pk_un (by omega)]; exact r8 y hy
  · rw [pk_un (by omega)]; exact r9 y hy
theorem WF_W' {K : KT} {W : Nat} (h : WFk K) (h1 : W < 2 ^ 64) (h2 : pcnt W ≤ 12) : WFk (setW K W) := ⟨h1, h2, h.2.2⟩
theorem RCc_W {K : KT} {c : CT} {W : Nat} (h : RCc K c) (hW : W < 2 ^ 64) : RCc (setW K W) (cW' c (lN W)) := ⟨wb_tn hW, h.2⟩
theorem ifb {α : Type} (b : Bool) (x y : α) : (if (if b then nI 1 else nI 0) = nI 0 then x else y) = if b then y else x := by
  cases b
  · rfl
  · rfl
theorem ev_build (v : VT) (rd : RT) (dr : CT) (nw : CT) (tr : CT) (da : DT) (i0 : CT) (i1 : CT) (s0 : ST) (s1 : ST) (s2 : ST) (s3 : ST) (st : AI) (now : AI) (isKept : AI) (hearers : Int32) (draft : AI) (dHearers : Int32) (dWalls : Int32) (toldWinds : Int32) (tape : AI) (taped : Int32) (pos : Int32) (frm : Int32) (sort : Int32) (value : Int32) (fault : Int32) (wrongAt : Int32) (landed : AI) (landedIn : AI) (stepped : AI) (isThere : AI) (isAt : AI) (isNext : AI) (landSum : Int64) (heardSum : Int64) (allWays : Int64) (ways : AI) (drawn : AI) (lanes : AI) (sizes : AI) (cells : AI) (torn : Int32) (before : AI) (hR : Rel v rd nw i0 i1 s0 s1 s2 s3 st isKept hearers tape taped fault lanes sizes cells torn) (p1 : Int32) (p2 : Int32) (hp2 : p2 = 0 ∨ p2 = 1) : ∃ (res : Int32) (nw_x : CT) (st_x : AI) (now_x : AI), fX5_build p1 p2 v nw = some (res, nw_x) ∧ fX6_build p1 p2 st now = some (res, st_x, now_x) ∧ (Rel v rd nw_x i0 i1 s0 s1 s2 s3 st_x isKept hearers tape taped fault lanes sizes cells torn) := by
  have hR0 := hR
  obtain ⟨⟨K, hK, hc, hm⟩, r0, r1, rt, rf, q0, q1, q2, q3, rl⟩ := hR
  have hm0 := RCm0 hm
  have hn := RN_starts now hK hm
  have hW := (lN_of hc.1).1
  have hW64 := WF_W hK
  have hP : pcnt (kW K) ≤ 12 := hK.2.1
  rcases isC p1 with ⟨q, hq, rfl, f1, f2⟩ | ⟨f1, f2⟩
  · have hcl := cell_lt hq
    have e2 : st (cell q / 10) = nI (kW K / 2 ^ (8 * (q / 8)) % 256) := by rw [cell_d hq]; exact hm0.1 _ (by omega)
    have hs := fun y (hy : y < 8) => show (kW K ||| 2 ^ q) / 2 ^ (8 * y) % 256 = if y = q / 8 then kW K / 2 ^ (8 * (q / 8)) % 256 ||| 2 ^ (q % 8) else kW K / 2 ^ (8 * y) % 256 by
      rw [wb_set hq]
      by_cases c : y = q / 8
      · rw [if_pos c, if_pos c, c]
      · rw [if_neg c, if_neg c]
    have hcr := fun y (hy : y < 8) => show (clr 64 (kW K) q) / 2 ^ (8 * y) % 256 = if y = q / 8 then clr 32 (kW K / 2 ^ (8 * (q / 8)) % 256) (q % 8) else kW K / 2 ^ (8 * y) % 256 by
      rw [wb_clr hq]
      by_cases c : y = q / 8
      · rw [if_pos c, if_pos c, c]
      · rw [if_neg c, if_neg c, if_pos hy]
    rcases hp2 with rfl | rfl
    · refine ⟨if (kW K).testBit q then nI 1 else nI 0, cW' nw (lN (clr 64 (kW K) q)), upd st (q / 8) (nI (clr 32 (kW K / 2 ^ (8 * (q / 8)) % 256) (q % 8))), fa_fill st now 61, ?_, ?_, ⟨setW K (clr 64 (kW K) q), WF_W' hK (clr_lt hW64) (Nat.le_trans (pc_clr hq) hP), RCc_W hc (clr_lt hW64), RCm_wall hK hm (by omega) hcr⟩, RI_cong rfl (upd61 _ (by omega)) r0, RI_cong rfl (upd61 _ (by omega)) r1, rt, rf, q0, q1, q2, q3, rl⟩
      · simp (disch := omega) only [fX5_build, f1, nm_q, bd1_some, bd2_some, bd3_some, bd4_some, bd5_some, bd6_some, bd7_some, bd8_some, bd9_some, bd10_some, bd11_some, bd1_ite, ↓reduceIte, gd_nI, gb_nI, gb_ite, li, liL, nI_add, nI_1, pk_sub, pk_mul, pk_div, nI_clamp, nI_eq, nI_leI, nI_ltI, nI_eqn, nI_neq, nI_nn, nI_len, nI_ltn, ngI_le, ngI_lt, nng, sm10, sm8, shr_n, shl_n, and_1, fa_or, leT, leF, ltT, ltF, eqT, eqF, c_place hq, hW, c_has hW64 hq, c_clr hq, ifb]
        cases (kW K).testBit q <;> rfl
      · simp (disch := omega) only [fX6_build, f2, nm_q, bd1_some, bd2_some, bd3_some, bd4_some, bd5_some, bd6_some, bd7_some, bd8_some, bd9_some, bd10_some, bd11_some, bd1_ite, ↓reduceIte, gd_nI, gb_nI, gb_ite, li, liL, nI_add, nI_1, pk_sub, pk_mul, pk_div, nI_clamp, nI_eq, nI_leI, nI_ltI, nI_eqn, nI_neq, nI_nn, nI_len, nI_ltn, ngI_le, ngI_lt, nng, sm10, sm8, shr_n, shl_n, and_1, fa_or, leT, leF, ltT, ltF, eqT, eqF, m_starts, m_wall hn.1 hq, flag_b, e2, cell_m hq, shl_1, m_clr]
        rw [cell_d hq]
    · by_cases ew : (kW K).testBit q = true
      · refine ⟨nI 1, cW' nw (lN (kW K ||| 2 ^ q)), upd st (q / 8) (nI (kW K / 2 ^ (8 * (q / 8)) % 256 ||| 2 ^ (q % 8))), fa_fill st now 61, ?_, ?_, ⟨setW K (kW K ||| 2 ^ q), WF_W' hK (or_lt hW64 hq) (by rw [pc_same ew]; exact hP), RCc_W hc (or_lt hW64 hq), RCm_wall hK hm (by omega) hs⟩, RI_cong rfl (upd61 _ (by omega)) r0, RI_cong rfl (upd61 _ (by omega)) r1, rt, rf, q0, q1, q2, q3, rl⟩
        · simp (disch := omega) only [fX5_build, f1, nm_q, bd1_some, bd2_some, bd3_some, bd4_some, bd5_some, bd6_some, bd7_some, bd8_some, bd9_some, bd10_some, bd11_some, bd1_ite, ↓reduceIte, gd_nI, gb_nI, gb_ite, li, liL, nI_add, nI_1, pk_sub, pk_mul, pk_div, nI_clamp, nI_eq, nI_leI, nI_ltI, nI_eqn, nI_neq, nI_nn, nI_len, nI_ltn, ngI_le, ngI_lt, nng, sm10, sm8, shr_n, shl_n, and_1, fa_or, leT, leF, ltT, ltF, eqT, eqF, c_place hq, hW, c_has hW64 hq, ew, if_true, c_set hq]
        · simp (disch := omega) only [fX6_build, f2, nm_q, bd1_some, bd2_some, bd3_some, bd4_some, bd5_some, bd6_some, bd7_some, bd8_some, bd9_some, bd10_some, bd11_some, bd1_ite, ↓reduceIte, gd_nI, gb_nI, gb_ite, li, liL, nI_add, nI_1, pk_sub, pk_mul, pk_div, nI_clamp, nI_eq, nI_leI, nI_ltI, nI_eqn, nI_neq, nI_nn, nI_len, nI_ltn, ngI_le, ngI_lt, nng, sm10, sm8, shr_n, shl_n, and_1, fa_or, leT, leF, ltT, ltF, eqT, eqF, m_starts, m_wall hn.1 hq, ew, if_true, flag_1, e2, cell_m hq, shl_1]
          rw [cell_d hq]
      · have ew2 : (kW K).testBit q = false := by simpa using ew
        by_cases hp : pcnt (kW K) < 12
        · refine ⟨nI 0, cW' nw (lN (kW K ||| 2 ^ q)), upd st (q / 8) (nI (kW K / 2 ^ (8 * (q / 8)) % 256 ||| 2 ^ (q % 8))), fa_fill st now 61, ?_, ?_, ⟨setW K (kW K ||| 2 ^ q), WF_W' hK (or_lt hW64 hq) (by have := pc_set (W := kW K) (p := q); omega), RCc_W hc (or_lt hW64 hq), RCm_wall hK hm (by omega) hs⟩, RI_cong rfl (upd61 _ (by omega)) r0, RI_cong rfl (upd61 _ (by omega)) r1, rt, rf, q0, q1, q2, q3, rl⟩
          · simp (disch := omega) only [fX5_build, f1, nm_q, bd1_some, bd2_some, bd3_some, bd4_some, bd5_some, bd6_some, bd7_some, bd8_some, bd9_some, bd10_some, bd11_some, bd1_ite, ↓reduceIte, gd_nI, gb_nI, gb_ite, li, liL, nI_add, nI_1, pk_sub, pk_mul, pk_div, nI_clamp, nI_eq, nI_leI, nI_ltI, nI_eqn, nI_neq, nI_nn, nI_len, nI_ltn, ngI_le, ngI_lt, nng, sm10, sm8, shr_n, shl_n, and_1, fa_or, leT, leF, ltT, ltF, eqT, eqF, c_place hq, hW, c_has hW64 hq, ew2, ff_i, c_pop hW64, c_set hq]
          · simp (disch := omega) only [fX6_build, f2, nm_q, bd1_some, bd2_some, bd3_some, bd4_some, bd5_some, bd6_some, bd7_some, bd8_some, bd9_some, bd10_some, bd11_some, bd1_ite, ↓reduceIte, gd_nI, gb_nI, gb_ite, li, liL, nI_add, nI_1, pk_sub, pk_mul, pk_div, nI_clamp, nI_eq, nI_leI, nI_ltI, nI_eqn, nI_neq, nI_nn, nI_len, nI_ltn, ngI_le, ngI_lt, nng, sm10, sm8, shr_n, shl_n, and_1, fa_or, leT, leF, ltT, ltF, eqT, eqF, m_starts, m_wall hn.1 hq, ew2, ff_i, flag_0, m_walls hn.1, e2, cell_m hq, shl_1]
            rw [cell_d hq]
        · refine ⟨-nI 3, nw, st, fa_fill st now 61, ?_, ?_, hR0⟩
          · simp (disch := omega) only [fX5_build, f1, nm_q, bd1_some, bd2_some, bd3_some, bd4_some, bd5_some, bd6_some, bd7_some, bd8_some, bd9_some, bd10_some, bd11_some, bd1_ite, ↓reduceIte, gd_nI, gb_nI, gb_ite, li, liL, nI_add, nI_1, pk_sub, pk_mul, pk_div, nI_clamp, nI_eq, nI_leI, nI_ltI, nI_eqn, nI_neq, nI_nn, nI_len, nI_ltn, ngI_le, ngI_lt, nng, sm10, sm8, shr_n, shl_n, and_1, fa_or, leT, leF, ltT, ltF, eqT, eqF, c_place hq, hW, c_has hW64 hq, ew2, ff_i, c_pop hW64]
          · simp (disch := omega) only [fX6_build, f2, nm_q, bd1_some, bd2_some, bd3_some, bd4_some, bd5_some, bd6_some, bd7_some, bd8_some, bd9_some, bd10_some, bd11_some, bd1_ite, ↓reduceIte, gd_nI, gb_nI, gb_ite, li, liL, nI_add, nI_1, pk_sub, pk_mul, pk_div, nI_clamp, nI_eq, nI_leI, nI_ltI, nI_eqn, nI_neq, nI_nn, nI_len, nI_ltn, ngI_le, ngI_lt, nng, sm10, sm8, shr_n, shl_n, and_1, fa_or, leT, leF, ltT, ltF, eqT, eqF, m_starts, m_wall hn.1 hq, ew2, ff_i, flag_0, m_walls hn.1]
  · refine ⟨-nI 1, nw, st, now, ?_, ?_, hR0⟩
    · simp (disch := omega) only [fX5_build, f1, nm_q, bd1_some, bd2_some, bd3_some, bd4_some, bd5_some, bd6_some, bd7_some, bd8_some, bd9_some, bd10_some, bd11_some, bd1_ite, ↓reduceIte, gd_nI, gb_nI, gb_ite, li, liL, nI_add, nI_1, pk_sub, pk_mul, pk_div, nI_clamp, nI_eq, nI_leI, nI_ltI, nI_eqn, nI_neq, nI_nn, nI_len, nI_ltn, ngI_le, ngI_lt, nng, sm10, sm8, shr_n, shl_n, and_1, fa_or, leT, leF, ltT, ltF, eqT, eqF]
    · simp (disch := omega) only [fX6_build, f2, nm_q, bd1_some, bd2_some, bd3_some, bd4_some, bd5_some, bd6_some, bd7_some, bd8_some, bd9_some, bd10_some, bd11_some, bd1_ite, ↓reduceIte, gd_nI, gb_nI, gb_ite, li, liL, nI_add, nI_1, pk_sub, pk_mul, pk_div, nI_clamp, nI_eq, nI_leI, nI_ltI, nI_eqn, nI_neq, nI_nn, nI_len, nI_ltn, ngI_le, ngI_lt, nng, sm10, sm8, shr_n, shl_n, and_1, fa_or, leT, leF, ltT, ltF, eqT, eqF]
