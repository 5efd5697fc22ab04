-- THE DAY, as numbers, and both sides of it
def op (W k q : Nat) : Bool := k == 3 || !W.testBit q
def flt (W k w : Nat) : Nat → Nat → Nat → Nat × Nat
  | 0, p, g => (p, g)
  | r + 1, p, g => match onP p w with
    | none => (p, g)
    | some q => if op W k q then flt W k w r q (g + 1) else (p, g)
theorem flt_b (W k w : Nat) : ∀ r p g, p < 64 → (flt W k w r p g).1 < 64 ∧ g ≤ (flt W k w r p g).2 ∧ (flt W k w r p g).2 ≤ g + r := by
  intro r
  induction r with
  | zero => intro p g hp; exact ⟨hp, Nat.le_refl _, Nat.le_refl _⟩
  | succ r ih =>
    intro p g hp
    rw [flt]
    cases e : onP p w with
    | none => exact ⟨hp, Nat.le_refl _, Nat.le_add_right _ _⟩
    | some q =>
      by_cases c : op W k q = true
      · simp only [c, if_true]
        obtain ⟨a, b, c⟩ := ih q (g + 1) (onP_lt hp e)
        exact ⟨a, by omega, by omega⟩
      · simp only [if_neg c]
        exact ⟨hp, Nat.le_refl _, Nat.le_add_right _ _⟩
def flyF (t : Nat → Nat) (W : Nat) : Nat × Nat := flt W (t 0) (t 2) (rch (t 0) (t 3)) (t 1) 0
def flyH (t : Nat → Nat) (W : Nat) : Nat := if t 4 + (flyF t W).2 / 2 < 9 then t 4 + (flyF t W).2 / 2 else 9
/-- where it is borne by a wind -/
def bear (W k p w : Nat) : Nat := match onP p w with
  | none => p
  | some q => if op W k q then q else p
def flyL (t : Nat → Nat) (W w : Nat) : Nat := bear W (t 0) (flyF t W).1 w
def flyW (t : Nat → Nat) (W w : Nat) : Nat := if t 0 = 2 ∧ pcnt W < 12 then W ||| 2 ^ flyL t W w else W
theorem rch_le {k f : Nat} (hf : f ≤ 9) : rch k f ≤ 10 := by unfold rch; split; omega; split; omega; split <;> omega
theorem flyF_b {t : Nat → Nat} (h : okT t) (W : Nat) : (flyF t W).1 < 64 ∧ (flyF t W).2 ≤ 10 := by
  have := flt_b W (t 0) (t 2) (rch (t 0) (t 3)) (t 1) 0 h.2.1
  have h2 := rch_le (k := t 0) h.2.2.2.2.1
  unfold flyF
  omega
theorem flyH_b (t : Nat → Nat) (W : Nat) : flyH t W ≤ 9 := by unfold flyH; split <;> omega
theorem bear_b {W k p w : Nat} (hp : p < 64) : bear W k p w < 64 := by
  unfold bear
  cases e : onP p w with
  | none => exact hp
  | some q =>
    by_cases c : op W k q = true
    · simp only [c, if_true]; exact onP_lt hp e
    · simp only [if_neg c]; exact hp
theorem flyL_b {t : Nat → Nat} (h : okT t) (W w : Nat) : flyL t W w < 64 := bear_b (flyF_b h W).1
theorem or_lt {W p : Nat} (hW : W < 2 ^ 64) (hp : p < 64) : W ||| 2 ^ p < 2 ^ 64 := Nat.or_lt_two_pow hW (Nat.pow_lt_pow_right (by omega) hp)
theorem flyW_b {t : Nat → Nat} (h : okT t) {W : Nat} (w : Nat) (hW : W < 2 ^ 64) : flyW t W w < 2 ^ 64 := by
  unfold flyW
  split
  · exact or_lt hW (flyL_b h W w)
  · exact hW
-- the class
def opo (W k : Nat) (o : Option Nat) : Bool := match o with
  | none => false
  | some q => op W k q
theorem eC_n : eC none = -nI 1 := rfl
theorem eC_s (q : Nat) : eC (some q) = nI q := rfl
theorem eM_n : eM none = -nI 4 := rfl
theorem eM_s (q : Nat) : eM (some q) = nI (cell q) := rfl
theorem opo_n (W k : Nat) : opo W k none = false := rfl
theorem opo_s (W k q : Nat) : opo W k (some q) = op W k q := rfl
theorem tt_i {α : Type} (x y : α) : (if true = true then x else y) = x := if_pos rfl
theorem ff_i {α : Type} (x y : α) : (if false = true then x else y) = y := if_neg (by decide)
theorem n10 : ¬ nI 1 = nI 0 := by decide
theorem c_open {W k : Nat} {o : Option Nat} {d : DT} (ho : ∀ q, o = some q → q < 64) (hk : k ≤ 3) (hW : W < 2 ^ 64) (hd : dW d = lN W) : fX1_isOpen (eC o) (nI k) d = some (if opo W k o then nI 1 else nI 0) := by
  unfold fX1_isOpen
  rw [hd]
  cases o with
  | none => rw [if_pos (show eC none < 0 by decide)]; rfl
  | some q =>
    have hq := ho q rfl
    rw [eC_s, opo_s]
    simp (disch := omega) only [nm_q, bd1_some, bd2_some, bd3_some, bd4_some, bd5_some, bd6_some, bd7_some, bd8_some, bd9_some, bd10_some, bd11_some, bd1_ite, ↓reduceIte, gd_nI, gb_nI, gb_ite, li, liL, nI_add, nI_1, pk_sub, pk_mul, pk_div, nI_clamp, nI_eq, nI_leI, nI_ltI, nI_eqn, nI_neq, nI_nn, nI_len, nI_ltn, ngI_le, ngI_lt, nng, sm10, sm8, shr_n, shl_n, and_1, fa_or, leT, leF, ltT, ltF, eqT, eqF, c_has]
    by_cases c : k = 3
    · subst c
      simp [op]
    · rw [if_neg c]
      cases e : W.testBit q with
      | true => simp [op, c, e]
      | false => simp [op, c, e]
theorem c_flt {W k w s far : Nat} {c : CT} {d : DT} (hW : W < 2 ^ 64) (hd : dW d = lN W) (hs : s < 5) (h0 : cTo c s 0 = nI k) (h2 : cTo c s 2 = nI w) (hk : k ≤ 3) (hw : w ≤ 3) (hf : far ≤ 10) (K : Int32 → Int32 → Option DT) : ∀ r g p n, g + r = far → r < n → p < 64 → fX1_comeDown_L29 d c (nI s) (nI far) K n (nI g) (nI p) = K (nI (flt W k w r p g).2) (nI (flt W k w r p g).1) := by
  intro r
  induction r with
  | zero =>
    intro g p n h hn hp
    obtain ⟨n, rfl⟩ : ∃ m, n = m + 1 := ⟨n - 1, by omega⟩
    rw [fX1_comeDown_L29, flt]
    simp (disch := omega) only [nm_q, bd1_some, bd2_some, bd3_some, bd4_some, bd5_some, bd6_some, bd7_some, bd8_some, bd9_some, bd10_some, bd11_some, bd1_ite, ↓reduceIte, gd_nI, gb_nI, gb_ite, li, liL, nI_add, nI_1, pk_sub, pk_mul, pk_div, nI_clamp, nI_eq, nI_leI, nI_ltI, nI_eqn, nI_neq, nI_nn, nI_len, nI_ltn, ngI_le, ngI_lt, nng, sm10, sm8, shr_n, shl_n, and_1, fa_or, leT, leF, ltT, ltF, eqT, eqF]
  | succ r ih =>
    intro g p n h hn hp
    obtain ⟨n, rfl⟩ : ∃ m, n = m + 1 := ⟨n - 1, by omega⟩
    rw [fX1_comeDown_L29, flt]
    simp (disch := omega) only [nm_q, bd1_some, bd2_some, bd3_some, bd4_some, bd5_some, bd6_some, bd7_some, bd8_some, bd9_some, bd10_some, bd11_some, bd1_ite, ↓reduceIte, gd_nI, gb_nI, gb_ite, li, liL, nI_add, nI_1, pk_sub, pk_mul, pk_div, nI_clamp, nI_eq, nI_leI, nI_ltI, nI_eqn, nI_neq, nI_nn, nI_len, nI_ltn, ngI_le, ngI_lt, nng, sm10, sm8, shr_n, shl_n, and_1, fa_or, leT, leF, ltT, ltF, eqT, eqF, h0, h2, c_on, c_open (o := onP p w) (fun q => onP_lt hp) hk hW hd]
    cases e : onP p w with
    | none => rw [opo_n, ff_i, if_pos rfl]
    | some q =>
      rw [opo_s, eC_s]
      cases c : op W k q with
      | true =>
        rw [tt_i, if_neg n10]
        simp only [c, tt_i]
        exact ih (g + 1) q n (by omega) (by omega) (onP_lt hp e)
      | false =>
        rw [ff_i, if_pos rfl]
        simp only [c, ff_i]
theorem c_come {W s : Nat} {t : Nat → Nat} {c : CT} {d : DT} (hW : W < 2 ^ 64) (hd : dW d = lN W) (hs : s < 5) (ht : okT t) (hc : ∀ k, k < 5 → cTo c s k = nI (tv t k)) : fX1_comeDown (nI s) d c = some (upd (dPl d) s (nI (flyF t W).1), upd (dHo d) s (nI (flyH t W)), upd (dSt d) s (nI (flyF t W).2), d.2.2.2) := by
  obtain ⟨h0, h1, h2, h3, h3', h4⟩ := ht
  have e0 : cTo c s 0 = nI (t 0) := hc 0 (by omega)
  have e1 : cTo c s 1 = nI (cell (t 1)) := hc 1 (by omega)
  have e2 : cTo c s 2 = nI (t 2) := hc 2 (by omega)
  have e3 : cTo c s 3 = nI (t 3) := hc 3 (by omega)
  have e4 : cTo c s 4 = nI (t 4) := hc 4 (by omega)
  have hr := rch_le (k := t 0) h3'
  have hb := flyF_b ⟨h0, h1, h2, h3, h3', h4⟩ W
  simp (disch := omega) only [fX1_comeDown, nm_q, bd1_some, bd2_some, bd3_some, bd4_some, bd5_some, bd6_some, bd7_some, bd8_some, bd9_some, bd10_some, bd11_some, bd1_ite, ↓reduceIte, gd_nI, gb_nI, gb_ite, li, liL, nI_add, nI_1, pk_sub, pk_mul, pk_div, nI_clamp, nI_eq, nI_leI, nI_ltI, nI_eqn, nI_neq, nI_nn, nI_len, nI_ltn, ngI_le, ngI_lt, nng, sm10, sm8, shr_n, shl_n, and_1, fa_or, e0, e1, e3, c_reach, c_place]
  rw [c_flt hW hd hs e0 e2 h0 h2 hr _ (rch (t 0) (t 3)) 0 (t 1) 4096 (by omega) (by omega) h1]
  show _ = _
  have hx : flt W (t 0) (t 2) (rch (t 0) (t 3)) (t 1) 0 = flyF t W := rfl
  rw [hx]
  simp (disch := omega) only [nm_q, bd1_some, bd2_some, bd3_some, bd4_some, bd5_some, bd6_some, bd7_some, bd8_some, bd9_some, bd10_some, bd11_some, bd1_ite, ↓reduceIte, gd_nI, gb_nI, gb_ite, li, liL, nI_add, nI_1, pk_sub, pk_mul, pk_div, nI_clamp, nI_eq, nI_leI, nI_ltI, nI_eqn, nI_neq, nI_nn, nI_len, nI_ltn, ngI_le, ngI_lt, nng, sm10, sm8, shr_n, shl_n, and_1, fa_or, e4]
  unfold flyH
  by_cases c : t 4 + (flyF t W).2 / 2 < 9
  · simp only [if_pos c]
  · simp only [if_neg c]
theorem c_land {W s p h w k : Nat} {c : CT} {d : DT} (hW : W < 2 ^ 64) (hd : dW d = lN W) (hs : s < 5) (hk : k ≤ 3) (hc : cTo c s 0 = nI k) (hp : p < 64) (e1 : dPl d s = nI p) (hh : h < 10) (e2 : dHo d s = nI h) (hw : w < 5) (e3 : dWi d h = nI w) : fX1_land (nI s) d c = some (upd (dPl d) s (nI (bear W k p w)), dHo d, dSt d, lN (if k = 2 ∧ pcnt W < 12 then W ||| 2 ^ bear W k p w else W), d.2.2.2.2) := by
  simp (disch := omega) only [fX1_land, nm_q, bd1_some, bd2_some, bd3_some, bd4_some, bd5_some, bd6_some, bd7_some, bd8_some, bd9_some, bd10_some, bd11_some, bd1_ite, ↓reduceIte, gd_nI, gb_nI, gb_ite, li, liL, nI_add, nI_1, pk_sub, pk_mul, pk_div, nI_clamp, nI_eq, nI_leI, nI_ltI, nI_eqn, nI_neq, nI_nn, nI_len, nI_ltn, ngI_le, ngI_lt, nng, sm10, sm8, shr_n, shl_n, and_1, fa_or, hc, e1, e2, e3, c_on, c_open (o := onP p w) (fun q => onP_lt hp) hk hW hd]
  have hb := bear_b (W := W) (k := k) (w := w) hp
  have key : (if (if opo W k (onP p w) then nI 1 else nI 0) = nI 0 then d else (upd (dPl d) s (eC (onP p w)), d.2)) = (upd (dPl d) s (nI (bear W k p w)), d.2) := by
    unfold bear
    cases e : onP p w with
    | none => rw [opo_n, ff_i, if_pos rfl, fa_upd_same e1]
    | some q =>
      rw [opo_s, eC_s]
      cases c : op W k q with
      | true =>
        rw [tt_i, if_neg n10]
        simp only [c, if_true]
      | false =>
        rw [ff_i, if_pos rfl]
        simp only [c, ff_i]
        rw [fa_upd_same e1]
  simp only [dPl'] at *
  rw [key]
  have hd2 : ∀ f : AI, dW (f, d.2) = lN W := fun f => hd
  have hp2 : dPl (upd (dPl d) s (nI (bear W k p w)), d.2) s = nI (bear W k p w) := pk_us
  rw [hd2, hp2, c_pop hW, bd1_some]
  by_cases c2 : k = 2
  · rw [if_pos c2]
    by_cases c3 : pcnt W < 12
    · rw [if_neg (by rw [nI_leI (by omega) (by omega)]; omega), if_pos ⟨c2, c3⟩]
      have e5 : lN W ||| lN 1 <<< ((nI (bear W k p w)).toInt64 &&& lN 63) = lN (W ||| 2 ^ bear W k p w) := by
        have := wb_shl 1 hb
        rw [show (lN 63) = (63 : Int64) from rfl, this, Nat.one_mul, fb_orL]
      rw [e5]
    · have hx : pcnt W < 65 := Nat.lt_succ_of_le (ct_le _ _)
      rw [if_pos (by rw [nI_leI (by omega) (by omega)]; omega), if_neg (fun q => c3 q.2)]
      rw [← hd]
  · rw [if_neg c2, if_neg (fun q => c2 q.1), ← hd]
