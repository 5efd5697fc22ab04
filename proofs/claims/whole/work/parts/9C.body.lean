-- the lines' bodies, both sides
def DK2 (K : KT) (dr : CT) (draft : AI) (dH dW : Int32) : Prop := WFk K ∧ RCc K dr ∧ RCm K draft 0 dH ∧ dW = nI (pcnt (kW K))
abbrev LY : Type := AI × Int32 × Int32 × Int32 × Int32 × Int32 × Int32 × Int32 × Int32 × Int32
/-- read on alike, or wrong alike -/
def LX (n : Nat) (t : Nat → Nat) (a0 : Nat) (x : Option (Int32 × RT × CT)) (y : Option LY) : Prop :=
  (∃ r dr K a' draft dH dW th pos frm sort value fault wrongAt, x = some (nI 1, r, dr) ∧ y = some (draft, dH, dW, nI th, pos, frm, sort, value, fault, wrongAt) ∧ a0 ≤ a' ∧ a' ≤ n ∧ Cls n t a' r ∧ Sync n t a' pos frm sort value fault wrongAt ∧ DK2 K dr draft dH dW ∧ rTh r = nI th ∧ th < 1024) ∨ (∃ r dr f w draft dH dW tW pos frm sort value, x = some (nI 0, r, dr) ∧ y = some (draft, dH, dW, tW, pos, frm, sort, value, nI f, nI w) ∧ 1 ≤ f ∧ f ≤ 5 ∧ rFl r = nI f ∧ rPl r = nI w)
theorem nd1 (c f fl w : Int32) : fX6_needs (nI 1) c f fl w = some (fl, w) := by rw [fX6_needs, if_neg (show ¬ nI 1 = 0 from n10)]
theorem nd0 (c f w : Int32) : fX6_needs (nI 0) c f (nI 0) w = some (c, f) := by rw [fX6_needs, if_pos (show nI 0 = 0 from rfl), if_pos (show nI 0 = 0 from rfl)]
theorem wall_b {n : Nat} {t : Nat → Nat} {tape : AI} {a : Nat} {r : RT} {K : KT} {dr : CT} {draft : AI} {dH dW : Int32} {th : Nat} {pos frm sort value fault wrongAt : Int32} (hb : BT n t tape) (h : Cls n t a r) (ha : a ≤ n) (hS : Sync n t a pos frm sort value fault wrongAt) (hD : DK2 K dr draft dH dW) (hp : pcnt (kW K) < 12) (hth : rTh r = nI th) (hth2 : th < 1024) : LX n t a (fX2_readWall r dr) (fX6_readLineOf (nI 4) draft dH dW (nI th) tape (nI n) pos frm sort value fault wrongAt) := by
  obtain ⟨hK, hc, hm, hw⟩ := hD
  have hW64 := WF_W hK
  have hW := (lN_of hc.1).1
  have hE := tkE_b (t := t) ha
  have hSb := tkS_b (t := t) ha
  have hf := nF_le n t 1 a
  rw [fX2_readWall, hW, c_pop hW64, bd1_some, if_pos (show nI (pcnt (kW K)) < 12 from nI_lt (b := 12) hp (by omega)), fX6_readLineOf, if_pos (show nI 4 = 4 from rfl), fX6_readWall, m_lookedCell ha hS]
  by_cases h0 : nF n t 1 a = 0
  · obtain ⟨r', e1, e2, e3, e4, e5⟩ := (c_num h ha (p := 1) (by omega) (by omega)).1 h0
    obtain ⟨k2, ok⟩ := nF_ok h0
    obtain ⟨q, hq, eq⟩ := ok_cell ok
    obtain ⟨g1, g2, g3⟩ := nF_good hS h0
    subst g1 g2 g3
    rw [eq] at e3 ⊢
    have hcl := cell_lt hq
    have e6 : draft (cell q / 10) = nI (kW K / 2 ^ (8 * (q / 8)) % 256) := by rw [cell_d hq]; exact (RCm0 hm).1 _ (by omega)
    have hby : kW K / 2 ^ (8 * (q / 8)) % 256 < 256 := Nat.mod_lt _ (by omega)
    have bt : kW K / 2 ^ (8 * (q / 8)) % 256 / 2 ^ (q % 8) % 2 = kW K / 2 ^ q % 2 := by
      rw [by_tb (by omega), show 8 * (q / 8) + q % 8 = q by omega]
    rw [if_pos h0, bd3_some, show fX2_readNumber 1 r = _ from e1, bd2_some, if_neg (show ¬ nI 1 = 0 from n10), e3, c_place hq, bd1_some, c_has hW64 hq, bd1_some]
    cases ew : (kW K).testBit q with
    | true =>
      have z := (tb1 (kW K) q).mpr ew
      rw [tt_i, if_neg (show ¬ nI 1 = 0 from n10)]
      refine Or.inr ⟨rPl' (rFl' r' 4) (rSt (rFl' r' 4)), dr, 4, tkS n t a, upd draft (cell q / 10) (nI (kW K / 2 ^ (8 * (q / 8)) % 256 ||| 2 ^ (q % 8))), dH, dW + nI 1, nI th, nI (tkE n t a), nI (tkS n t a), sort, value, rfl, ?_, by omega, by omega, rfl, e5⟩
      simp (disch := omega) only [nm_q, bd1_some, bd2_some, bd3_some, bd4_some, bd5_some, bd6_some, bd7_some, bd8_some, bd9_some, bd10_some, bd11_some, bd1_ite, ↓reduceIte, gd_nI, gb_nI, gb_ite, li, liL, nI_add, nI_1, pk_sub, pk_mul, pk_div, nI_clamp, nI_eq, nI_leI, nI_ltI, nI_eqn, nI_neq, nI_nn, nI_len, nI_ltn, ngI_le, ngI_lt, nng, sm10, sm8, shr_n, shl_n, and_1, fa_or, leT, leF, ltT, ltF, eqT, eqF, e6, cell_m hq, bt, z, nd0, shl_1, m_takesF]
    | false =>
      have z := (tb0 (kW K) q).mpr ew
      rw [ff_i, if_pos (show nI 0 = 0 from rfl), nm_q, nm_q, show (1 : Int64) <<< ((nI q).toInt64 &&& 63) = lN 1 <<< ((nI q).toInt64 &&& lN 63) from rfl, c_set hq]
      obtain ⟨a1, a2, a3, a4, a5, a6, t1, t2⟩ := m_takes hb hE.2.1 (nI (tkS n t a)) sort value wrongAt
      refine Or.inl ⟨r', cW' dr (lN (kW K ||| 2 ^ q)), setW K (kW K ||| 2 ^ q), tkE n t a, upd draft (q / 8) (nI (kW K / 2 ^ (8 * (q / 8)) % 256 ||| 2 ^ (q % 8))), dH, nI (pcnt (kW K) + 1), th, a1, a2, a3, a4, a5, a6, rfl, ?_, by omega, hE.2.1, e2, t2, ⟨WF_W' hK (or_lt hW64 hq) (by rw [pc_add ew hq]; omega), RCc_W hc (or_lt hW64 hq), RCm_wall hK hm (by omega) (fun y hy => ?_), by show nI _ = nI (pcnt (kW K ||| 2 ^ q)); rw [pc_add ew hq]⟩, e4.trans hth, hth2⟩
      · simp (disch := omega) only [nm_q, bd1_some, bd2_some, bd3_some, bd4_some, bd5_some, bd6_some, bd7_some, bd8_some, bd9_some, bd10_some, bd11_some, bd1_ite, ↓reduceIte, gd_nI, gb_nI, gb_ite, li, liL, nI_add, nI_1, pk_sub, pk_mul, pk_div, nI_clamp, nI_eq, nI_leI, nI_ltI, nI_eqn, nI_neq, nI_nn, nI_len, nI_ltn, ngI_le, ngI_lt, nng, sm10, sm8, shr_n, shl_n, and_1, fa_or, leT, leF, ltT, ltF, eqT, eqF, e6, cell_m hq, bt, z, nd1, shl_1, hw, t1]
        rw [cell_d hq]
      · rw [wb_set hq]
        by_cases c : y = q / 8
        · rw [if_pos c, if_pos c, c]
        · rw [if_neg c, if_neg c]
  · obtain ⟨r', e1, e2, e3⟩ := (c_num h ha (p := 1) (by omega) (by omega)).2 h0
    rw [if_neg h0, bd3_some, if_neg (nz (by omega) (by omega)), bd3_some, nm_q, m_takesF _ _ _ _ _ _ (by omega) (by omega), bd6_some, bd8_some, show fX2_readNumber 1 r = _ from e1, bd2_some, if_pos (show nI 0 = 0 from rfl)]
    exact Or.inr ⟨r', dr, _, _, _, _, _, _, _, _, _, _, rfl, rfl, by omega, by omega, e2, e3⟩
theorem wall_x {n : Nat} {t : Nat → Nat} {a : Nat} {r : RT} {K : KT} {dr : CT} {draft : AI} {dH dW : Int32} (h : Cls n t a r) (ha : a ≤ n) (hD : DK2 K dr draft dH dW) (hp : pcnt (kW K) < 12) (k : tkK n t a = 4) : ∃ r', fX2_readWall r dr = some (nI 0, r', dr) ∧ rFl r' = nI 1 ∧ rPl r' = nI (tkS n t a) := by
  obtain ⟨hK, hc, hm, hw⟩ := hD
  have hn : nF n t 1 a = 1 := by unfold nF; rw [if_pos k]
  obtain ⟨r', e1, e2, e3⟩ := (c_num h ha (p := 1) (by omega) (by omega)).2 (by omega)
  rw [fX2_readWall, (lN_of hc.1).1, c_pop (WF_W hK), bd1_some, if_pos (show nI (pcnt (kW K)) < 12 from nI_lt (b := 12) hp (by omega)), show fX2_readNumber 1 r = _ from e1, bd2_some, if_pos (show nI 0 = 0 from rfl)]
  rw [hn] at e2
  exact ⟨r', rfl, e2, e3⟩
theorem hear_b {n : Nat} {t : Nat → Nat} {tape : AI} {a : Nat} {r : RT} {K : KT} {dr : CT} {draft : AI} {dH dW : Int32} {th : Nat} {pos frm sort value fault wrongAt : Int32} (hb : BT n t tape) (h : Cls n t a r) (ha : a ≤ n) (hS : Sync n t a pos frm sort value fault wrongAt) (hD : DK2 K dr draft dH dW) (hp : kH K < 4) (hth : rTh r = nI th) (hth2 : th < 1024) : LX n t a (fX2_readHearer r dr) (fX6_readLineOf (nI 5) draft dH dW (nI th) tape (nI n) pos frm sort value fault wrongAt) := by
  obtain ⟨hK, hc, hm, hw⟩ := hD
  have hE := tkE_b (t := t) ha
  have hSb := tkS_b (t := t) ha
  have hf := nF_le n t 1 a
  have hm0 := RCm0 hm
  have eH := hc.2.2.2.2.1
  have eH' : dr.2.2.2.2.2.1 = nI (kH K) := eH
  have dHe := hm0.2.2.2.2.1
  rw [fX2_readHearer, eH, if_pos (show nI (kH K) < 4 from nI_lt (b := 4) hp (by omega)), fX6_readLineOf, if_neg (show ¬ nI 5 = 4 by decide), if_pos (show nI 5 = 5 from rfl), nm_q, dHe, show (44 : Int32) + nI (kH K) = nI (44 + kH K) from nI_add 44 _]
  by_cases h0 : nF n t 1 a = 0
  · obtain ⟨r', e1, e2, e3, e4, e5⟩ := (c_num h ha (p := 1) (by omega) (by omega)).1 h0
    obtain ⟨k2, ok⟩ := nF_ok h0
    obtain ⟨q, hq, eq⟩ := ok_cell ok
    obtain ⟨a1, a2, a3, a4, a5, a6, t1, t2⟩ := (m_rdC hb ha hS).1 h0
    rw [eq] at e3 t1
    rw [t1, bd7_some, gd_nI _ (by omega) (by omega), nm_q, nI_clamp (by omega), nm_q, nI_1, show fX2_readNumber 1 r = _ from e1, bd2_some, if_neg (show ¬ nI 1 = 0 from n10), gd_nI _ hp (by omega), nI_clamp (by omega), nm_q, nm_q, nm_q, e3]
    refine Or.inl ⟨r', (dr.1, dr.2.1, dr.2.2.1, dr.2.2.2.1, upd (cAt dr) (kH K) (nI (cell q)), nI (kH K + 1), dr.2.2.2.2.2.2), (K.1, K.2.1, K.2.2.1, K.2.2.2.1, kH K + 1, va_up (kHp K) (kH K) q, K.2.2.2.2.2.2), tkE n t a, upd draft (44 + kH K) (nI (cell q)), nI (kH K + 1), dW, th, a1, a2, a3, a4, a5, a6, ?_, rfl, by omega, hE.2.1, e2, t2, ⟨?_, ?_, ?_, hw⟩, e4.trans hth, hth2⟩
    · show some ((1 : Int32), r', cHe' (cAt' dr (upd (cAt dr) (kH K) (nI (cell q)))) (cHe dr + 1)) = _
      rw [eH, nI_1]
      rfl
    · obtain ⟨b1, b2, b3, b4, b5, b6, b7, b8⟩ := hK
      refine ⟨b1, b2, b3, b4, b5, (show kH K + 1 ≤ 4 by omega), fun i hi => ?_, b8⟩
      show va_up (kHp K) (kH K) q i < 64
      by_cases c : i = kH K
      · rw [c, up_s]; exact hq
      · have hi2 : i < kH K + 1 := hi
        rw [up_n _ _ c]; exact b7 i (by omega)
    · obtain ⟨b1, b2, b3, b4, b5, b6, b7⟩ := hc
      refine ⟨b1, b2, b3, b4, rfl, fun i hi => ?_, b7⟩
      show upd (cAt dr) (kH K) (nI (cell q)) i = nI (cell (va_up (kHp K) (kH K) q i))
      by_cases c : i = kH K
      · rw [c, up_s, pk_us]
      · have hi2 : i < kH K + 1 := hi
        rw [up_n _ _ c, pk_un c]; exact b6 i (by omega)
    · have hN := WF_N hK
      have hSn := WF_S hK
      obtain ⟨b1, b2, b3, b4, b5, b6, b7, b8, b9⟩ := hm0
      unfold RCm
      simp only [Nat.zero_add]
      refine ⟨fun y hy => ?_, fun y hy => ?_, ?_, fun u hu j hj => ?_, trivial, fun y hy => ?_, ?_, fun y hy => ?_, fun y hy => ?_⟩
      · rw [pk_un (by omega)]; exact b1 y hy
      · rw [pk_un (by omega)]; exact b2 y hy
      · rw [pk_un (by omega)]; exact b3
      · have hu2 : u < kN K := hu
        rw [pk_un (by omega)]; exact b4 u hu j hj
      · have hy2 : y < kH K + 1 := hy
        show _ = nI (cell (va_up (kHp K) (kH K) q y))
        by_cases c : y = kH K
        · rw [c, up_s, pk_us]
        · rw [up_n _ _ c, pk_un (by omega)]; exact b6 y (by omega)
      · rw [pk_un (by omega)]; exact b7
      · rw [pk_un (by omega)]; exact b8 y hy
      · rw [pk_un (by omega)]; exact b9 y hy
  · obtain ⟨r', e1, e2, e3⟩ := (c_num h ha (p := 1) (by omega) (by omega)).2 h0
    obtain ⟨a1, a2, a3, a4, t1⟩ := (m_rdC hb ha hS).2 h0
    rw [t1, bd7_some, gd_nI _ (by omega) (by omega), nm_q, nm_q, show fX2_readNumber 1 r = _ from e1, bd2_some, if_pos (show nI 0 = 0 from rfl)]
    exact Or.inr ⟨r', dr, _, _, _, _, _, _, _, _, _, _, rfl, rfl, by omega, by omega, e2, e3⟩
theorem hear_x {n : Nat} {t : Nat → Nat} {a : Nat} {r : RT} {K : KT} {dr : CT} {draft : AI} {dH dW : Int32} (h : Cls n t a r) (ha : a ≤ n) (hD : DK2 K dr draft dH dW) (hp : kH K < 4) (k : tkK n t a = 4) : ∃ r', fX2_readHearer r dr = some (nI 0, r', dr) ∧ rFl r' = nI 1 ∧ rPl r' = nI (tkS n t a) := by
  obtain ⟨hK, hc, hm, hw⟩ := hD
  have hn : nF n t 1 a = 1 := by unfold nF; rw [if_pos k]
  obtain ⟨r', e1, e2, e3⟩ := (c_num h ha (p := 1) (by omega) (by omega)).2 (by omega)
  rw [fX2_readHearer, hc.2.2.2.2.1, if_pos (show nI (kH K) < 4 from nI_lt (b := 4) hp (by omega)), show fX2_readNumber 1 r = _ from e1, bd2_some, if_pos (show nI 0 = 0 from rfl)]
  rw [hn] at e2
  exact ⟨r', rfl, e2, e3⟩
