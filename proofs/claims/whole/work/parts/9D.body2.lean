-- the lines of WINDS and SAYINGS
theorem wind_b {n : Nat} {t : Nat → Nat} {tape : AI} {a : Nat} {r : RT} {K : KT} {dr : CT} {draft : AI} {dH dW : Int32} {th : Nat} {pos frm sort value fault wrongAt : Int32} (hb : BT n t tape) (h : Cls n t a r) (ha : a ≤ n) (hS : Sync n t a pos frm sort value fault wrongAt) (hD : DK2 K dr draft dH dW) (hth : rTh r = nI th) (hth2 : th < 1024) : LX n t a (fX2_readWind r dr) (fX6_readLineOf (nI 6) draft dH dW (nI th) tape (nI n) pos frm sort value fault wrongAt) := by
  obtain ⟨hK, hc, hm, hw⟩ := hD
  have hE := tkE_b (t := t) ha
  have hSb := tkS_b (t := t) ha
  have hE2 := tkE_b (t := t) hE.2.1
  have hSb2 := tkS_b (t := t) hE.2.1
  have hf := nF_le n t 4 a
  have hf5 := nF_le n t 5 (tkE n t a)
  have hm0 := RCm0 hm
  have lk : fX6_looked 0 9 frm sort value fault wrongAt = _ := m_look (p := 4) ha (by omega) (by omega) hS
  rw [fX2_readWind, fX6_readLineOf, if_neg (show ¬ nI 6 = 4 by decide), if_neg (show ¬ nI 6 = 5 by decide), if_pos (show nI 6 = 6 from rfl), fX6_readWind, lk]
  by_cases h0 : nF n t 4 a = 0
  · obtain ⟨r', e1, e2, e3, e4, e5⟩ := (c_num h ha (p := 4) (by omega) (by omega)).1 h0
    obtain ⟨k2, ok⟩ := nF_ok h0
    have hv : tkV n t a ≤ 9 := by
      have h2 : decide (tkV n t a ≤ 9) = true := ok
      simpa using h2
    obtain ⟨g1, g2, g3⟩ := nF_good hS h0
    subst g1 g2 g3
    have hp2 : 2 ^ tkV n t a < 1024 := Nat.lt_of_lt_of_le (Nat.pow_lt_pow_right (by omega) (show tkV n t a < 10 by omega)) (Nat.le_refl _)
    rw [if_pos h0, bd3_some, show fX2_readNumber 4 r = _ from e1, bd2_some, if_neg (show ¬ nI 1 = 0 from n10), e4, hth, e3]
    cases eb : th.testBit (tkV n t a) with
    | true =>
      have z := (tb1 th (tkV n t a)).mpr eb
      refine Or.inr ⟨rPl' (rFl' r' 4) (rSt (rFl' r' 4)), dr, 4, tkS n t a, upd draft (8 + tkV n t a) (nI 0), dH, dW, nI (th ||| 2 ^ tkV n t a), nI (tkE n t a), nI (tkS n t a), sort, value, ?_, ?_, by omega, by omega, rfl, e5⟩
      · simp (disch := omega) only [nm_q, bd1_some, bd2_some, bd3_some, bd4_some, bd5_some, bd6_some, bd7_some, bd8_some, bd9_some, bd10_some, bd11_some, bd1_ite, ↓reduceIte, gd_nI, gb_nI, gb_ite, li, liL, nI_add, nI_1, pk_sub, pk_mul, pk_div, nI_clamp, nI_eq, nI_leI, nI_ltI, nI_eqn, nI_neq, nI_nn, nI_len, nI_ltn, ngI_le, ngI_lt, nng, sm10, sm8, shr_n, shl_n, and_1, fa_or, leT, leF, ltT, ltF, eqT, eqF, z]
        rfl
      · simp (disch := omega) only [nm_q, bd1_some, bd2_some, bd3_some, bd4_some, bd5_some, bd6_some, bd7_some, bd8_some, bd9_some, bd10_some, bd11_some, bd1_ite, ↓reduceIte, gd_nI, gb_nI, gb_ite, li, liL, nI_add, nI_1, pk_sub, pk_mul, pk_div, nI_clamp, nI_eq, nI_leI, nI_ltI, nI_eqn, nI_neq, nI_nn, nI_len, nI_ltn, ngI_le, ngI_lt, nng, sm10, sm8, shr_n, shl_n, and_1, fa_or, leT, leF, ltT, ltF, eqT, eqF, z, nd0, shl_1, m_takesF, m_rdF, Nat.one_mul]
    | false =>
      have z := (tb0 th (tkV n t a)).mpr eb
      obtain ⟨a1, a2, a3, a4, a5, a6, t1, t2⟩ := m_takes hb hE.2.1 (nI (tkS n t a)) sort value wrongAt
      have cl2 : Cls n t (tkE n t a) (rTh' r' (nI (th ||| 2 ^ tkV n t a))) := e2
      have step : (nm (nI th >>> (nI (tkV n t a) &&& 31)) fun x5 => if (x5 &&& (1 : Int32)) = 0 then (nm (nI th ||| ((1 : Int32) <<< (nI (tkV n t a) &&& 31))) fun x7 => nm (rTh' r' x7) fun r_8 => bd2 (fX2_readNumber 5 r_8) fun r9 r_10 => if r9 = 0 then (some (0, r_10, dr)) else (gd (nI (tkV n t a)) 10 <| nm (cWi' dr (upd (cWi dr) ((nI (tkV n t a)).toNatClampNeg) (rVa r_10))) fun dr_14 => some (1, r_10, dr_14))) else (bd2 (fX2_flawed 4 r') fun r15 r_16 => gb r15 <| some (r15, r_16, dr))) = (bd2 (fX2_readNumber (nI 5) (rTh' r' (nI (th ||| 2 ^ tkV n t a)))) fun r9 r_10 => if r9 = nI 0 then (some (nI 0, r_10, dr)) else (some (nI 1, r_10, cWi' dr (upd (cWi dr) (tkV n t a) (rVa r_10))))) := by
        simp (disch := omega) only [nm_q, bd1_some, bd2_some, bd3_some, bd4_some, bd5_some, bd6_some, bd7_some, bd8_some, bd9_some, bd10_some, bd11_some, bd1_ite, ↓reduceIte, gd_nI, gb_nI, gb_ite, li, liL, nI_add, nI_1, pk_sub, pk_mul, pk_div, nI_clamp, nI_eq, nI_leI, nI_ltI, nI_eqn, nI_neq, nI_nn, nI_len, nI_ltn, ngI_le, ngI_lt, nng, sm10, sm8, shr_n, shl_n, and_1, fa_or, leT, leF, ltT, ltF, eqT, eqF, z, shl_1, Nat.one_mul]
      rw [step]
      by_cases h5 : nF n t 5 (tkE n t a) = 0
      · obtain ⟨r2, f1, f2, f3, f4, f5⟩ := (c_num cl2 hE.2.1 (p := 5) (by omega) (by omega)).1 h5
        obtain ⟨b1, b2, b3, b4, b5, b6, t3, t4⟩ := (m_rd (p := 5) hb hE.2.1 (by omega) (by omega) t2).1 h5
        have t3 : fX6_readNumber (nI 0) (nI 4) tape (nI n) a1 a2 a3 a4 a5 a6 = _ := t3
        obtain ⟨_, ok5⟩ := nF_ok h5
        have hw5 : tkV n t (tkE n t a) ≤ 4 := by
          have h2 : decide (tkV n t (tkE n t a) ≤ 4) = true := ok5
          simpa using h2
        rw [f1, bd2_some, if_neg (show ¬ nI 1 = nI 0 from n10), f3]
        refine Or.inl ⟨r2, cWi' dr (upd (cWi dr) (tkV n t a) (nI (tkV n t (tkE n t a)))), setWi K (va_up (kWi K) (tkV n t a) (tkV n t (tkE n t a))), tkE n t (tkE n t a), upd draft (8 + tkV n t a) (nI (tkV n t (tkE n t a))), dH, dW, th ||| 2 ^ tkV n t a, b1, b2, b3, b4, b5, b6, rfl, ?_, by omega, hE2.2.1, f2, t4, ⟨?_, ?_, ?_, hw⟩, f4, Nat.or_lt_two_pow (n := 10) hth2 hp2⟩
        · simp (disch := omega) only [nm_q, bd1_some, bd2_some, bd3_some, bd4_some, bd5_some, bd6_some, bd7_some, bd8_some, bd9_some, bd10_some, bd11_some, bd1_ite, ↓reduceIte, gd_nI, gb_nI, gb_ite, li, liL, nI_add, nI_1, pk_sub, pk_mul, pk_div, nI_clamp, nI_eq, nI_leI, nI_ltI, nI_eqn, nI_neq, nI_nn, nI_len, nI_ltn, ngI_le, ngI_lt, nng, sm10, sm8, shr_n, shl_n, and_1, fa_or, leT, leF, ltT, ltF, eqT, eqF, z, nd1, shl_1, t1, t3, Nat.one_mul]
        · obtain ⟨b1, b2, b3, b4⟩ := hK
          refine ⟨b1, b2, fun i hi => ?_, b4⟩
          show va_up (kWi K) _ _ i ≤ 4
          by_cases c : i = tkV n t a
          · rw [c, up_s]; exact hw5
          · rw [up_n _ _ c]; exact b3 i hi
        · obtain ⟨b1, b2, b3⟩ := hc
          refine ⟨b1, fun i hi => ?_, b3⟩
          show upd (cWi dr) _ _ i = nI (va_up (kWi K) _ _ i)
          by_cases c : i = tkV n t a
          · rw [c, up_s, pk_us]
          · rw [up_n _ _ c, pk_un c]; exact b2 i hi
        · obtain ⟨b1, b2, b3, b4, b5, b6, b7, b8, b9⟩ := hm0
          unfold RCm
          simp only [Nat.zero_add]
          refine ⟨fun y hy => ?_, fun y hy => ?_, ?_, fun u hu j hj => ?_, b5, fun y hy => ?_, ?_, fun y hy => ?_, fun y hy => ?_⟩
          · rw [pk_un (by omega)]; exact b1 y hy
          · show _ = nI (va_up (kWi K) _ _ y)
            by_cases c : y = tkV n t a
            · rw [c, up_s, pk_us]
            · rw [up_n _ _ c, pk_un (by omega)]; exact b2 y hy
          · rw [pk_un (by omega)]; exact b3
          · rw [pk_un (by omega)]; exact b4 u hu j hj
          · rw [pk_un (by omega)]; exact b6 y hy
          · rw [pk_un (by omega)]; exact b7
          · rw [pk_un (by omega)]; exact b8 y hy
          · rw [pk_un (by omega)]; exact b9 y hy
      · obtain ⟨r2, f1, f2, f3⟩ := (c_num cl2 hE.2.1 (p := 5) (by omega) (by omega)).2 h5
        obtain ⟨b1, b2, b3, b4, t3⟩ := (m_rd (p := 5) hb hE.2.1 (by omega) (by omega) t2).2 h5
        have t3 : fX6_readNumber (nI 0) (nI 4) tape (nI n) a1 a2 a3 a4 a5 a6 = _ := t3
        rw [f1, bd2_some, if_pos rfl]
        refine Or.inr ⟨r2, dr, nF n t 5 (tkE n t a), tkS n t (tkE n t a), upd draft (8 + tkV n t a) (nI 0), dH, dW, nI (th ||| 2 ^ tkV n t a), b1, b2, b3, b4, rfl, ?_, by omega, by omega, f2, f3⟩
        simp (disch := omega) only [nm_q, bd1_some, bd2_some, bd3_some, bd4_some, bd5_some, bd6_some, bd7_some, bd8_some, bd9_some, bd10_some, bd11_some, bd1_ite, ↓reduceIte, gd_nI, gb_nI, gb_ite, li, liL, nI_add, nI_1, pk_sub, pk_mul, pk_div, nI_clamp, nI_eq, nI_leI, nI_ltI, nI_eqn, nI_neq, nI_nn, nI_len, nI_ltn, ngI_le, ngI_lt, nng, sm10, sm8, shr_n, shl_n, and_1, fa_or, leT, leF, ltT, ltF, eqT, eqF, z, nd1, shl_1, t1, t3, Nat.one_mul]
  · obtain ⟨r', e1, e2, e3⟩ := (c_num h ha (p := 4) (by omega) (by omega)).2 h0
    rw [if_neg h0, bd3_some, if_neg (nz (by omega) (by omega)), bd3_some, m_takesF _ _ _ _ _ _ (by omega) (by omega), bd6_some, nm_q, m_rdF _ _ _ _ _ _ _ _ (by omega) (by omega), bd7_some, show (8 : Int32) + nI 0 = nI 8 from nI_add 8 0, gd_nI _ (by omega) (by omega), nm_q, bd8_some, show fX2_readNumber 4 r = _ from e1, bd2_some, if_pos (show nI 0 = 0 from rfl)]
    exact Or.inr ⟨r', dr, _, _, _, _, _, _, _, _, _, _, rfl, rfl, by omega, by omega, e2, e3⟩
theorem wind_x {n : Nat} {t : Nat → Nat} {a : Nat} {r : RT} {dr : CT} (h : Cls n t a r) (ha : a ≤ n) (k : tkK n t a = 4) : ∃ r', fX2_readWind r dr = some (nI 0, r', dr) ∧ rFl r' = nI 1 ∧ rPl r' = nI (tkS n t a) := by
  have hn : nF n t 4 a = 1 := by unfold nF; rw [if_pos k]
  obtain ⟨r', e1, e2, e3⟩ := (c_num h ha (p := 4) (by omega) (by omega)).2 (by omega)
  rw [fX2_readWind, show fX2_readNumber 4 r = _ from e1, bd2_some, if_pos (show nI 0 = 0 from rfl)]
  rw [hn] at e2
  exact ⟨r', rfl, e2, e3⟩
theorem c_sayS {n : Nat} {t : Nat → Nat} {a p N : Nat} {r : RT} {dr drx : CT} (C : Int32 → RT → CT → Option (Int32 × RT × CT)) (F : Nat) (h : Cls n t a r) (ha : a ≤ n) (hp : p < 5) (hp1 : 1 ≤ p) (eN : cSa dr = nI N) (hN : N < 5) : (nF n t p a = 0 → ∃ r', Cls n t (tkE n t a) r' ∧ rTh r' = rTh r ∧ fX2_readSaying_L33 dr C (F + 1) (nI p) r drx = fX2_readSaying_L33 dr C F (nI (p + 1)) r' (cTo' drx (va_up (cTo drx) N (upd (cTo drx N) p (nI (tkV n t a)))))) ∧ (nF n t p a ≠ 0 → ∃ r', fX2_readSaying_L33 dr C (F + 1) (nI p) r drx = some (nI 0, r', drx) ∧ rFl r' = nI (nF n t p a) ∧ rPl r' = nI (tkS n t a)) := by
  rw [fX2_readSaying_L33, if_neg (show ¬ (4 : Int32) < nI p by rw [show (4 : Int32) = nI 4 from rfl, fa_lt, nI_toInt (by omega), nI_toInt (by omega)]; omega)]
  constructor
  · intro h0
    obtain ⟨r', e1, e2, e3, e4, e5⟩ := (c_num h ha (p := p) (by omega) hp1).1 h0
    refine ⟨r', e2, e4, ?_⟩
    rw [e1, bd2_some, if_neg (show ¬ nI 1 = 0 from n10), eN, gd_nI _ hN (by omega), gd_nI _ hp (by omega), nm_q, nm_q, nI_clamp (by omega), nI_clamp (by omega), e3, nI_1]
  · intro h0
    obtain ⟨r', e1, e2, e3⟩ := (c_num h ha (p := p) (by omega) hp1).2 h0
    exact ⟨r', by rw [e1, bd2_some, if_pos (show nI 0 = 0 from rfl)]; rfl, e2, e3⟩
theorem say_x {n : Nat} {t : Nat → Nat} {a j : Nat} {r : RT} {K : KT} {dr : CT} {draft : AI} {dH dW : Int32} (h : Cls n t a r) (ha : a ≤ n) (hD : DK2 K dr draft dH dW) (hp : kN K < 5) (k : tkK n t a = 4) : ∃ r' dr', fX2_readSaying (nI j) r dr = some (nI 0, r', dr') ∧ rFl r' = nI 1 ∧ rPl r' = nI (tkS n t a) := by
  obtain ⟨hK, hc, hm, hw⟩ := hD
  have eN := hc.2.2.1
  have hn : nF n t 1 a = 1 := by unfold nF; rw [if_pos k]
  obtain ⟨F, hF⟩ : ∃ F, F = 4096 := ⟨_, rfl⟩
  rw [fX2_readSaying, ← hF]
  obtain ⟨F, rfl⟩ : ∃ m, F = m + 1 := ⟨F - 1, by omega⟩
  rw [eN, if_pos (show nI (kN K) < 5 from nI_lt (b := 5) hp (by omega)), gd_nI _ hp (by omega), nm_q, nI_clamp (by omega)]
  obtain ⟨r', e1, e2, e3⟩ := (c_sayS (drx := cTo' dr (va_up (cTo dr) (kN K) (upd (cTo dr (kN K)) 0 (nI j)))) (fun v5 r_6 dr_7 => nm ((cSa dr_7) + (1 : Int32)) fun x19 => nm (cSa' dr_7 x19) fun dr_20 => some (1, r_6, dr_20)) F h ha (p := 1) (by omega) (by omega) eN hp).2 (by omega)
  rw [hn] at e2
  exact ⟨r', _, e1, e2, e3⟩
theorem say_b {n : Nat} {t : Nat → Nat} {tape : AI} {a j : Nat} {r : RT} {K : KT} {dr : CT} {draft : AI} {dH dW : Int32} {th : Nat} {pos frm sort value fault wrongAt : Int32} (hb : BT n t tape) (h : Cls n t a r) (ha : a ≤ n) (hS : Sync n t a pos frm sort value fault wrongAt) (hD : DK2 K dr draft dH dW) (hp : kN K < 5) (hj : j ≤ 3) (hth : rTh r = nI th) (hth2 : th < 1024) : LX n t a (fX2_readSaying (nI j) r dr) (fX6_readLineOf (nI j) draft dH dW (nI th) tape (nI n) pos frm sort value fault wrongAt) := by
  obtain ⟨hK, hc, hm, hw⟩ := hD
  have eN := hc.2.2.1
  have hm0 := RCm0 hm
  have e43 := hm0.2.2.1
  have ha1 := (tkE_b (t := t) ha).2.1
  have ha2 := (tkE_b (t := t) ha1).2.1
  have ha3 := (tkE_b (t := t) ha2).2.1
  have ha4 := (tkE_b (t := t) ha3).2.1
  have m0 := (tkE_b (t := t) ha).1
  have m1 := (tkE_b (t := t) ha1).1
  have m2 := (tkE_b (t := t) ha2).1
  have m3 := (tkE_b (t := t) ha3).1
  have s0 := (tkS_b (t := t) ha).1
  have s1 := (tkS_b (t := t) ha1).1
  have s2 := (tkS_b (t := t) ha2).1
  have s3 := (tkS_b (t := t) ha3).1
  have f1 := nF_le n t 1 a
  have f2 := nF_le n t 2 (tkE n t a)
  have f3 := nF_le n t 3 (tkE n t (tkE n t a))
  have f4 := nF_le n t 4 (tkE n t (tkE n t (tkE n t a)))
  obtain ⟨F, hF⟩ : ∃ F, F = 4096 := ⟨_, rfl⟩
  rw [fX2_readSaying, ← hF]
  obtain ⟨F, rfl⟩ : ∃ m, F = m + 5 := ⟨F - 5, by omega⟩
  rw [eN, if_pos (show nI (kN K) < 5 from nI_lt (b := 5) hp (by omega)), gd_nI _ hp (by omega), nm_q, nI_clamp (by omega)]
  generalize hC : (fun v5 r_6 dr_7 => nm ((cSa dr_7) + (1 : Int32)) fun x19 => nm (cSa' dr_7 x19) fun dr_20 => (some (1, r_6, dr_20) : Option (Int32 × RT × CT))) = C
  have hCe : ∀ v5 r dr7, C v5 r dr7 = some (1, r, cSa' dr7 (cSa dr7 + 1)) := fun _ _ _ => by rw [← hC]; rfl
  have ix : ∀ k : Nat, k < 5 → nI (18 + 5 * kN K) + nI k = nI (18 + 5 * kN K + k) := fun k _ => nI_add _ _
  have i0 : nI (18 + 5 * kN K) + 0 = nI (18 + 5 * kN K + 0) := nI_add _ 0
  have i1 : nI (18 + 5 * kN K) + 1 = nI (18 + 5 * kN K + 1) := nI_add _ 1
  have i2 : nI (18 + 5 * kN K) + 2 = nI (18 + 5 * kN K + 2) := nI_add _ 2
  have i3 : nI (18 + 5 * kN K) + 3 = nI (18 + 5 * kN K + 3) := nI_add _ 3
  have i4 : nI (18 + 5 * kN K) + 4 = nI (18 + 5 * kN K + 4) := nI_add _ 4
  rw [fX6_readLineOf, if_neg (show ¬ nI j = 4 by rw [show (4 : Int32) = nI 4 from rfl, nI_eq (by omega) (by omega)]; omega), if_neg (show ¬ nI j = 5 by rw [show (5 : Int32) = nI 5 from rfl, nI_eq (by omega) (by omega)]; omega), if_neg (show ¬ nI j = 6 by rw [show (6 : Int32) = nI 6 from rfl, nI_eq (by omega) (by omega)]; omega), fX6_readSaying, nm_q, e43, show (18 : Int32) + (5 : Int32) * nI (kN K) = nI (18 + 5 * kN K) by rw [show (5 : Int32) = nI 5 from rfl, pk_mul, show (18 : Int32) = nI 18 from rfl, nI_add], nm_q, i0, gd_nI _ (by omega) (by omega), nm_q, nI_clamp (by omega), nm_q, i1]
  have st1 := c_sayS (drx := cTo' dr (va_up (cTo dr) (kN K) (upd (cTo dr (kN K)) 0 (nI j)))) C (F + 4) h ha (p := 1) (by omega) (by omega) eN hp
  by_cases z1 : nF n t 1 a = 0
  · obtain ⟨r1, c1, th1, q1⟩ := st1.1 z1
    obtain ⟨a1, a2, a3, a4, a5, a6, t1, y1⟩ := (m_rdC hb ha hS).1 z1
    obtain ⟨_, ok1⟩ := nF_ok z1
    obtain ⟨q, hq, eq⟩ := ok_cell ok1
    rw [show fX2_readSaying_L33 dr C (F + 5) 1 r _ = _ from q1, t1, bd7_some, gd_nI _ (by omega) (by omega), nm_q, nI_clamp (by omega), nm_q, i2]
    have st2 := fun d => c_sayS (drx := d) C (F + 3) c1 ha1 (p := 2) (by omega) (by omega) eN hp
    by_cases z2 : nF n t 2 (tkE n t a) = 0
    · obtain ⟨r2, c2, th2, q2⟩ := (st2 _).1 z2
      obtain ⟨b1, b2, b3, b4, b5, b6, t2, y2⟩ := (m_rd (p := 2) hb ha1 (by omega) (by omega) y1).1 z2
      obtain ⟨_, ok2⟩ := nF_ok z2
      have v2 : tkV n t (tkE n t a) ≤ 3 := by
        have h2 : decide (tkV n t (tkE n t a) ≤ 3) = true := ok2
        simpa using h2
      rw [q2, show fX6_readNumber 0 3 tape (nI n) a1 a2 a3 a4 a5 a6 = _ from t2, bd7_some, gd_nI _ (by omega) (by omega), nm_q, nI_clamp (by omega), nm_q, i3]
      have st3 := fun d => c_sayS (drx := d) C (F + 2) c2 ha2 (p := 3) (by omega) (by omega) eN hp
      by_cases z3 : nF n t 3 (tkE n t (tkE n t a)) = 0
      · obtain ⟨r3, c3, th3, q3⟩ := (st3 _).1 z3
        obtain ⟨d1, d2, d3, d4, d5, d6, t3, y3⟩ := (m_rd (p := 3) hb ha2 (by omega) (by omega) y2).1 z3
        obtain ⟨_, ok3'⟩ := nF_ok z3
        have v3 : 1 ≤ tkV n t (tkE n t (tkE n t a)) ∧ tkV n t (tkE n t (tkE n t a)) ≤ 9 := by
          have h2 : (decide (1 ≤ tkV n t (tkE n t (tkE n t a))) && decide (tkV n t (tkE n t (tkE n t a)) ≤ 9)) = true := ok3'
          simpa using h2
        rw [q3, show fX6_readNumber 1 9 tape (nI n) b1 b2 b3 b4 b5 b6 = _ from t3, bd7_some, gd_nI _ (by omega) (by omega), nm_q, nI_clamp (by omega), nm_q, i4]
        have st4 := fun d => c_sayS (drx := d) C (F + 1) c3 ha3 (p := 4) (by omega) (by omega) eN hp
        by_cases z4 : nF n t 4 (tkE n t (tkE n t (tkE n t a))) = 0
        · obtain ⟨r4, c4, th4, q4⟩ := (st4 _).1 z4
          obtain ⟨g1, g2, g3, g4, g5, g6, t4, y4⟩ := (m_rd (p := 4) hb ha3 (by omega) (by omega) y3).1 z4
          obtain ⟨_, ok4'⟩ := nF_ok z4
          have v4 : tkV n t (tkE n t (tkE n t (tkE n t a))) ≤ 9 := by
            have h2 : decide (tkV n t (tkE n t (tkE n t (tkE n t a))) ≤ 9) = true := ok4'
            simpa using h2
          rw [q4, show fX6_readNumber 0 9 tape (nI n) d1 d2 d3 d4 d5 d6 = _ from t4, bd7_some, gd_nI _ (by omega) (by omega), nm_q, nI_clamp (by omega), nm_q, nm_q, nm_q, pk_un (by omega), pk_un (by omega), pk_un (by omega), pk_un (by omega), pk_un (by omega), e43, nI_1, bd7_some, fX2_readSaying_L33, if_pos (show (4 : Int32) < nI (4 + 1) by decide), hCe, eq]
          have hmr := RCm_addR (τ := fun k => if k = 0 then j else if k = 1 then q else if k = 2 then tkV n t (tkE n t a) else if k = 3 then tkV n t (tkE n t (tkE n t a)) else tkV n t (tkE n t (tkE n t (tkE n t a)))) hK hp hm
          refine Or.inl ⟨r4, _, addR K (fun k => if k = 0 then j else if k = 1 then q else if k = 2 then tkV n t (tkE n t a) else if k = 3 then tkV n t (tkE n t (tkE n t a)) else tkV n t (tkE n t (tkE n t (tkE n t a)))), tkE n t (tkE n t (tkE n t (tkE n t a))), _, dH, dW, th, g1, g2, g3, g4, g5, g6, rfl, rfl, by omega, ha4, c4, y4, ⟨WF_addR hK hp ⟨hj, hq, v2, v3.1, v3.2, v4⟩, ?_, hmr, hw⟩, (th4.trans (th3.trans (th2.trans th1))).trans hth, hth2⟩
          have er : ∀ T' : Nat → AI, cSa' (cTo' dr T') (cSa (cTo' dr T') + 1) = (dr.1, dr.2.1, T', nI (kN K + 1), dr.2.2.2.2) := fun T' => by
            show (dr.1, dr.2.1, T', cSa dr + 1, dr.2.2.2.2) = _
            rw [eN, nI_1]
          rw [show ∀ (T1 T2 T3 T4 T5 : Nat → AI), cTo' (cTo' (cTo' (cTo' (cTo' dr T1) T2) T3) T4) T5 = cTo' dr T5 from fun _ _ _ _ _ => rfl]
          rw [er]
          refine RCc_addR hc (fun k hk => ?_) (fun s hs => ?_)
          · simp only [cTo, cTo', up_s]
            have hk5 : k = 0 ∨ k = 1 ∨ k = 2 ∨ k = 3 ∨ k = 4 := by omega
            rcases hk5 with rfl | rfl | rfl | rfl | rfl <;> rfl
          · simp only [cTo, cTo', up_n _ _ hs]
        · obtain ⟨r4, q4, w1, w2⟩ := (st4 _).2 z4
          obtain ⟨g1, g2, g3, g4, t4⟩ := (m_rd (p := 4) hb ha3 (by omega) (by omega) y3).2 z4
          rw [q4, show fX6_readNumber 0 9 tape (nI n) d1 d2 d3 d4 d5 d6 = _ from t4, bd7_some, gd_nI _ (by omega) (by omega), nm_q, nm_q, nm_q, nm_q, bd7_some]
          exact Or.inr ⟨r4, _, _, _, _, _, _, _, _, _, _, _, rfl, rfl, by omega, by omega, w1, w2⟩
      · obtain ⟨r3, q3, w1, w2⟩ := (st3 _).2 z3
        obtain ⟨d1, d2, d3, d4, t3⟩ := (m_rd (p := 3) hb ha2 (by omega) (by omega) y2).2 z3
        rw [q3, show fX6_readNumber 1 9 tape (nI n) b1 b2 b3 b4 b5 b6 = _ from t3, bd7_some, gd_nI _ (by omega) (by omega), nm_q, nm_q, i4, m_rdF _ _ _ _ _ _ _ _ (by omega) (by omega), bd7_some, gd_nI _ (by omega) (by omega), nm_q, nm_q, nm_q, nm_q, bd7_some]
        exact Or.inr ⟨r3, _, _, _, _, _, _, _, _, _, _, _, rfl, rfl, by omega, by omega, w1, w2⟩
    · obtain ⟨r2, q2, w1, w2⟩ := (st2 _).2 z2
      obtain ⟨b1, b2, b3, b4, t2⟩ := (m_rd (p := 2) hb ha1 (by omega) (by omega) y1).2 z2
      rw [q2, show fX6_readNumber 0 3 tape (nI n) a1 a2 a3 a4 a5 a6 = _ from t2, bd7_some, gd_nI _ (by omega) (by omega), nm_q, nm_q, i3, m_rdF _ _ _ _ _ _ _ _ (by omega) (by omega), bd7_some, gd_nI _ (by omega) (by omega), nm_q, nm_q, i4, m_rdF _ _ _ _ _ _ _ _ (by omega) (by omega), bd7_some, gd_nI _ (by omega) (by omega), nm_q, nm_q, nm_q, nm_q, bd7_some]
      exact Or.inr ⟨r2, _, _, _, _, _, _, _, _, _, _, _, rfl, rfl, by omega, by omega, w1, w2⟩
  · obtain ⟨r1, q1, w1, w2⟩ := st1.2 z1
    obtain ⟨a1, a2, a3, a4, t1⟩ := (m_rdC hb ha hS).2 z1
    rw [show fX2_readSaying_L33 dr C (F + 5) 1 r _ = _ from q1, t1, bd7_some, gd_nI _ (by omega) (by omega), nm_q, nm_q, i2, m_rdF _ _ _ _ _ _ _ _ (by omega) (by omega), bd7_some, gd_nI _ (by omega) (by omega), nm_q, nm_q, i3, m_rdF _ _ _ _ _ _ _ _ (by omega) (by omega), bd7_some, gd_nI _ (by omega) (by omega), nm_q, nm_q, i4, m_rdF _ _ _ _ _ _ _ _ (by omega) (by omega), bd7_some, gd_nI _ (by omega) (by omega), nm_q, nm_q, nm_q, nm_q, bd7_some]
    exact Or.inr ⟨r1, _, _, _, _, _, _, _, _, _, _, _, rfl, rfl, by omega, by omega, w1, w2⟩
