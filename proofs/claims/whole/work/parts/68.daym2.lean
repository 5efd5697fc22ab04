-- a flight of the reference; its day
theorem wb_set {W p x : Nat} (hp : p < 64) : (W ||| 2 ^ p) / 2 ^ (8 * x) % 256 = if x = p / 8 then W / 2 ^ (8 * x) % 256 ||| 2 ^ (p % 8) else W / 2 ^ (8 * x) % 256 := by
  have e : ∀ V i, (V / 2 ^ (8 * x) % 256).testBit i = (decide (i < 8) && V.testBit (8 * x + i)) := fun V i => by
    show (V / 2 ^ (8 * x) % 2 ^ 8).testBit i = _
    rw [Nat.testBit_mod_two_pow, Nat.testBit_div_two_pow, Nat.add_comm]
  apply Nat.eq_of_testBit_eq
  intro i
  rw [e, fb_bit_set]
  by_cases c : x = p / 8
  · rw [if_pos c, fb_bit_set, e]
    by_cases ci : i < 8
    · have : decide (8 * x + i = p) = decide (i = p % 8) := by congr 1; exact propext ⟨fun _ => by omega, fun _ => by omega⟩
      rw [this]
      simp [ci]
    · have : ¬ i = p % 8 := by omega
      simp [ci, this]
  · rw [if_neg c, e]
    by_cases ci : i < 8
    · have : ¬ 8 * x + i = p := by omega
      simp [this]
    · simp [ci]
theorem WB_set {W p : Nat} {now : AI} (h : WB W now) (hp : p < 64) : WB (W ||| 2 ^ p) (upd now (p / 8) (nI (W / 2 ^ (8 * (p / 8)) % 256 ||| 2 ^ (p % 8)))) := by
  intro x hx
  rw [wb_set hp]
  by_cases c : x = p / 8
  · rw [if_pos c, c, pk_us]
  · rw [if_neg c, pk_un c]
    exact h x hx
theorem RN_set {K : KT} {W p : Nat} {now : AI} (h : RN K W now) (hp : p < 64) : RN K (W ||| 2 ^ p) (upd now (p / 8) (nI (W / 2 ^ (8 * (p / 8)) % 256 ||| 2 ^ (p % 8)))) := by
  obtain ⟨h1, h2, h3, h4, h5⟩ := h
  refine ⟨WB_set h1 hp, fun i hi => ?_, ?_, fun s hs k hk => ?_, fun i hi => ?_⟩
  · rw [pk_un (by omega)]; exact h2 i hi
  · rw [pk_un (by omega)]; exact h3
  · rw [pk_un (by omega)]; exact h4 s hs k hk
  · rw [pk_un (by omega)]; exact h5 i hi
theorem shl_1 {k : Nat} (h : k < 31) : nI 1 <<< (nI k &&& nI 31) = nI (2 ^ k) := by
  have := Nat.pow_lt_pow_right (a := 2) (by omega) h
  rw [shl_n (by omega) (by omega), Nat.one_mul]
theorem m_borne {W P w k : Nat} {now : AI} (h : WB W now) (hP : P < 64) : (if eM (onP P w) = -nI 4 then some (nI (cell P)) else if (if k = 3 then nI 1 else nI 0) = nI 0 then bd1 (fX6_isWall (eM (onP P w)) now) fun r73 => if r73 = nI 0 then some (eM (onP P w)) else some (nI (cell P)) else some (eM (onP P w))) = some (nI (cell (bear W k P w))) := by
  unfold bear
  cases e : onP P w with
  | none => rw [if_pos (eM_n)]
  | some q =>
    have hq := onP_lt hP e
    have hq2 := cell_lt hq
    rw [eM_s, if_neg (by rw [nI_eqn (by omega) (by omega) (by omega)]; exact fun h => h), m_wall h hq, bd1_some]
    by_cases c3 : k = 3
    · rw [if_pos c3, if_neg n10]
      simp only [show op W k q = true by simp [op, c3], if_true]
    · rw [if_neg c3, if_pos rfl]
      cases ew : W.testBit q with
      | true =>
        rw [tt_i, if_neg n10]
        simp only [show op W k q = false by simp [op, c3, ew], ff_i]
      | false =>
        rw [ff_i, if_pos rfl]
        simp only [show op W k q = true by simp [op, c3, ew], if_true]
theorem m_fly {K : KT} {W s : Nat} {now : AI} (la lh ls : AI) (h : RN K W now) (hN : kN K ≤ 5) (hs : s < kN K) (ht : okT (kT K s)) (hwi : ∀ i, i < 10 → kWi K i ≤ 4) : ∃ now', fX6_flies (nI s) now la lh ls = some (now', upd la s (nI (cell (flyL (kT K s) W (kWi K (flyH (kT K s) W))))), upd lh s (nI (flyH (kT K s) W)), upd ls s (nI (flyF (kT K s) W).2)) ∧ RN K (flyW (kT K s) W (kWi K (flyH (kT K s) W))) now' := by
  have ht' := ht
  obtain ⟨h0, h1, h2, h3, h3', h4⟩ := ht'
  have e0 : fX6_of (nI s) (nI 0) now = some (nI (kT K s 0)) := m_of h hN hs (k := 0) (by omega)
  have e1 : fX6_of (nI s) (nI 1) now = some (nI (cell (kT K s 1))) := m_of h hN hs (k := 1) (by omega)
  have e2 : fX6_of (nI s) (nI 2) now = some (nI (kT K s 2)) := m_of h hN hs (k := 2) (by omega)
  have e4 : fX6_of (nI s) (nI 4) now = some (nI (kT K s 4)) := m_of h hN hs (k := 4) (by omega)
  obtain ⟨F, hF⟩ : ∃ F, F = 4096 := ⟨_, rfl⟩
  have hr2 := rch_le (k := kT K s 0) h3'
  have hb := flyF_b ht W
  have hh := flyH_b (kT K s) W
  have hL := flyL_b ht W (kWi K (flyH (kT K s) W))
  have eH : (if kT K s 4 + (flyF (kT K s) W).2 / 2 ≤ 9 then nI (kT K s 4 + (flyF (kT K s) W).2 / 2) else nI 9) = nI (flyH (kT K s) W) := by
    unfold flyH
    by_cases c : kT K s 4 + (flyF (kT K s) W).2 / 2 < 9
    · rw [if_pos c, if_pos (by omega)]
    · by_cases c2 : kT K s 4 + (flyF (kT K s) W).2 / 2 ≤ 9
      · rw [if_neg c, if_pos c2]; congr 1; omega
      · rw [if_neg c, if_neg c2]
  have ew : now (8 + flyH (kT K s) W) = nI (kWi K (flyH (kT K s) W)) := h.2.1 _ (by omega)
  have hw4 := hwi (flyH (kT K s) W) (by omega)
  have eB : (if kWi K (flyH (kT K s) W) = 4 then some (-nI 4) else bd1 (fX6_beside (nI (cell (flyF (kT K s) W).1)) (nI (kWi K (flyH (kT K s) W)))) fun r => some r) = some (eM (onP (flyF (kT K s) W).1 (kWi K (flyH (kT K s) W)))) := by
    by_cases c : kWi K (flyH (kT K s) W) = 4
    · rw [if_pos c, c]; rfl
    · rw [if_neg c, m_on _ hb.1 _ (by omega)]; rfl
  rw [fX6_flies, ← hF]
  simp (disch := omega) only [nm_q, bd1_some, bd2_some, bd3_some, bd4_some, bd5_some, bd6_some, bd7_some, bd8_some, bd9_some, bd10_some, bd11_some, bd1_ite, ↓reduceIte, gd_nI, gb_nI, gb_ite, li, liL, nI_add, nI_1, pk_sub, pk_mul, pk_div, nI_clamp, nI_eq, nI_leI, nI_ltI, nI_eqn, nI_neq, nI_nn, nI_len, nI_ltn, ngI_le, ngI_lt, nng, sm10, sm8, shr_n, shl_n, and_1, fa_or, e0, e1, e2, m_on _ h1 _ (show kT K s 2 < 4 by omega)]
  rw [m_flt h hN hs ht _ (rch (kT K s 0) (kT K s 3)) 0 (kT K s 1) F (by omega) (by omega) h1]
  have hx : flt W (kT K s 0) (kT K s 2) (rch (kT K s 0) (kT K s 3)) (kT K s 1) 0 = flyF (kT K s) W := rfl
  rw [hx]
  have hc := cell_lt hb.1
  simp (disch := omega) only [nm_q, bd1_some, bd2_some, bd3_some, bd4_some, bd5_some, bd6_some, bd7_some, bd8_some, bd9_some, bd10_some, bd11_some, bd1_ite, ↓reduceIte, gd_nI, gb_nI, gb_ite, li, liL, nI_add, nI_1, pk_sub, pk_mul, pk_div, nI_clamp, nI_eq, nI_leI, nI_ltI, nI_eqn, nI_neq, nI_nn, nI_len, nI_ltn, ngI_le, ngI_lt, nng, sm10, sm8, shr_n, shl_n, and_1, fa_or, e4, eH, ew, eB]
  rw [m_borne (k := kT K s 0) (w := kWi K (flyH (kT K s) W)) h.1 hb.1, bd1_some]
  have hx2 : bear W (kT K s 0) (flyF (kT K s) W).1 (kWi K (flyH (kT K s) W)) = flyL (kT K s) W (kWi K (flyH (kT K s) W)) := rfl
  rw [hx2]
  unfold flyW
  generalize flyL (kT K s) W (kWi K (flyH (kT K s) W)) = L at *
  by_cases c2 : kT K s 0 = 2
  · rw [if_pos c2, m_walls h.1, bd1_some]
    have hx : pcnt W < 65 := Nat.lt_succ_of_le (ct_le _ _)
    by_cases c3 : pcnt W < 12
    · rw [if_neg (by rw [nI_leI (by omega) (by omega)]; omega), if_pos ⟨c2, c3⟩]
      have e := h.1 (L / 8) (by omega)
      refine ⟨_, ?_, RN_set h hL⟩
      have hcl := cell_lt hL
      have e2 : now (cell L / 10) = nI (W / 2 ^ (8 * (L / 8)) % 256) := by rw [cell_d hL]; exact e
      rw [pk_us]
      simp (disch := omega) only [nm_q, bd1_some, bd2_some, bd3_some, bd4_some, bd5_some, bd6_some, bd7_some, bd8_some, bd9_some, bd10_some, bd11_some, bd1_ite, ↓reduceIte, gd_nI, gb_nI, gb_ite, li, liL, nI_add, nI_1, pk_sub, pk_mul, pk_div, nI_clamp, nI_eq, nI_leI, nI_ltI, nI_eqn, nI_neq, nI_nn, nI_len, nI_ltn, ngI_le, ngI_lt, nng, sm10, sm8, shr_n, shl_n, and_1, fa_or, e2, cell_m hL, shl_1]
      rw [cell_d hL]
    · rw [if_pos (by rw [nI_leI (by omega) (by omega)]; omega), if_neg (fun q => c3 q.2)]
      exact ⟨_, rfl, h⟩
  · rw [if_neg c2, if_neg (fun q => c2 q.1)]
    exact ⟨_, rfl, h⟩
