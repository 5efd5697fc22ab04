-- TOKENS of a text, both sides
/-- the first place from p on where q fails, c places at most -/
def rn (q : Nat → Bool) : Nat → Nat → Nat
  | 0, p => p
  | c + 1, p => if q p then rn q c (p + 1) else p
theorem rn_b (q : Nat → Bool) : ∀ c p, p ≤ rn q c p ∧ rn q c p ≤ p + c
  | 0, p => ⟨Nat.le_refl _, Nat.le_refl _⟩
  | c + 1, p => by
    rw [rn]
    have := rn_b q c (p + 1)
    split <;> omega
theorem rn_y {q : Nat → Bool} {c p : Nat} (h : q p = true) : rn q (c + 1) p = rn q c (p + 1) := by rw [rn, if_pos h]
theorem rn_n {q : Nat → Bool} {c p : Nat} (h : q p = false) : rn q c p = p := by
  cases c with
  | zero => rfl
  | succ c => rw [rn, if_neg (by rw [h]; decide)]
theorem rn_end {q : Nat → Bool} : ∀ {c p : Nat}, rn q c p < p + c → q (rn q c p) = false
  | 0, p, h => by rw [rn] at h; omega
  | c + 1, p, h => by
    rw [rn] at h ⊢
    by_cases e : q p = true
    · rw [if_pos e] at h ⊢
      exact rn_end (by omega)
    · rw [if_neg e] at h ⊢
      simpa using e
/-- the bytes of a tape -/
def BT (n : Nat) (t : Nat → Nat) (f : AI) : Prop := n ≤ 160 ∧ ∀ i, i < n → f i = nI (t i) ∧ t i < 128
def isSp (t : Nat → Nat) (p : Nat) : Bool := t p == 32
def isLt (t : Nat → Nat) (p : Nat) : Bool := decide (97 ≤ t p) && decide (t p ≤ 122)
def isDg (t : Nat → Nat) (p : Nat) : Bool := decide (48 ≤ t p) && decide (t p ≤ 57)
def tkS (n : Nat) (t : Nat → Nat) (a : Nat) : Nat := rn (isSp t) (n - a) a
/-- 0 the end, 1 a name, 2 a number, 3 a stop, 4 no token -/
def tkK (n : Nat) (t : Nat → Nat) (a : Nat) : Nat := if n ≤ tkS n t a then 0 else if t (tkS n t a) = 59 then 3 else if isLt t (tkS n t a) then 1 else if isDg t (tkS n t a) then (if rn (isDg t) (n - tkS n t a) (tkS n t a) ≤ tkS n t a + 2 then 2 else 4) else 4
def tkE (n : Nat) (t : Nat → Nat) (a : Nat) : Nat := if n ≤ tkS n t a then tkS n t a else if t (tkS n t a) = 59 then tkS n t a + 1 else if isLt t (tkS n t a) then rn (isLt t) (n - tkS n t a) (tkS n t a) else if isDg t (tkS n t a) then rn (isDg t) (n - tkS n t a) (tkS n t a) else tkS n t a + 1
def tkV (n : Nat) (t : Nat → Nat) (a : Nat) : Nat := if rn (isDg t) (n - tkS n t a) (tkS n t a) ≤ tkS n t a + 1 then t (tkS n t a) - 48 else 10 * (t (tkS n t a) - 48) + (t (tkS n t a + 1) - 48)
theorem tkS_b {n : Nat} {t : Nat → Nat} {a : Nat} (ha : a ≤ n) : a ≤ tkS n t a ∧ tkS n t a ≤ n := by
  have := rn_b (isSp t) (n - a) a
  unfold tkS
  omega
theorem tkE_b {n : Nat} {t : Nat → Nat} {a : Nat} (ha : a ≤ n) : tkS n t a ≤ tkE n t a ∧ tkE n t a ≤ n ∧ (tkK n t a ≠ 0 → tkS n t a < tkE n t a) := by
  have h := tkS_b (t := t) ha
  unfold tkE tkK
  generalize tkS n t a = s at *
  by_cases c0 : n ≤ s
  · rw [if_pos c0, if_pos c0]
    exact ⟨Nat.le_refl _, h.2, fun h => absurd rfl h⟩
  · rw [if_neg c0, if_neg c0]
    by_cases c1 : t s = 59
    · rw [if_pos c1, if_pos c1]
      exact ⟨by omega, by omega, fun _ => by omega⟩
    · rw [if_neg c1, if_neg c1]
      by_cases c2 : isLt t s = true
      · rw [if_pos c2, if_pos c2]
        have b := rn_b (isLt t) (n - s - 1) (s + 1)
        rw [show n - s = (n - s - 1) + 1 by omega, rn_y c2]
        exact ⟨by omega, by omega, fun _ => by omega⟩
      · rw [if_neg c2, if_neg c2]
        by_cases c3 : isDg t s = true
        · rw [if_pos c3, if_pos c3]
          have b := rn_b (isDg t) (n - s - 1) (s + 1)
          rw [show n - s = (n - s - 1) + 1 by omega, rn_y c3]
          exact ⟨by omega, by omega, fun _ => by omega⟩
        · rw [if_neg c3, if_neg c3]
          exact ⟨by omega, by omega, fun _ => by omega⟩
-- the reference
theorem m_byte {n : Nat} {t : Nat → Nat} {tape : AI} {p : Nat} (h : BT n t tape) (hp : p < n) : fX6_byteAt (nI p) tape (nI n) = some (nI (t p)) := by
  have hn := h.1
  have e := (h.2 p hp).1
  simp (disch := omega) only [fX6_byteAt, nm_q, bd1_some, bd2_some, bd3_some, bd4_some, bd5_some, bd6_some, bd7_some, bd8_some, bd9_some, bd10_some, bd11_some, bd1_ite, ↓reduceIte, gd_nI, gb_nI, gb_ite, li, liL, nI_add, nI_1, pk_sub, pk_mul, pk_div, nI_clamp, nI_eq, nI_leI, nI_ltI, nI_eqn, nI_neq, nI_nn, nI_len, nI_ltn, ngI_le, ngI_lt, nng, sm10, sm8, shr_n, shl_n, and_1, fa_or, leT, leF, ltT, ltF, eqT, eqF, e]
theorem m_byteE {n p : Nat} {tape : AI} (hn : n ≤ 160) (hp : n ≤ p) (hp2 : p < 2 ^ 30) : fX6_byteAt (nI p) tape (nI n) = some (-nI 1) := by
  simp (disch := omega) only [fX6_byteAt, nm_q, bd1_some, bd2_some, bd3_some, bd4_some, bd5_some, bd6_some, bd7_some, bd8_some, bd9_some, bd10_some, bd11_some, bd1_ite, ↓reduceIte, gd_nI, gb_nI, gb_ite, li, liL, nI_add, nI_1, pk_sub, pk_mul, pk_div, nI_clamp, nI_eq, nI_leI, nI_ltI, nI_eqn, nI_neq, nI_nn, nI_len, nI_ltn, ngI_le, ngI_lt, nng, sm10, sm8, shr_n, shl_n, and_1, fa_or, leT, leF, ltT, ltF, eqT, eqF]
theorem m_sp {n : Nat} {t : Nat → Nat} {tape : AI} (h : BT n t tape) (C : Int32 → Option (Int32 × Int32 × Int32 × Int32 × Int32 × Int32)) : ∀ c p F, p + c = n → c < F → fX6_takes_L8 tape (nI n) C F (nI p) = C (nI (rn (isSp t) c p)) := by
  have hn := h.1
  intro c
  induction c with
  | zero =>
    intro p F hp hF
    obtain ⟨F, rfl⟩ : ∃ m, F = m + 1 := ⟨F - 1, by omega⟩
    rw [fX6_takes_L8, m_byteE hn (by omega) (by omega), bd1_some, if_neg (by decide)]
    rfl
  | succ c ih =>
    intro p F hp hF
    obtain ⟨F, rfl⟩ : ∃ m, F = m + 1 := ⟨F - 1, by omega⟩
    have b := (h.2 p (by omega)).2
    rw [fX6_takes_L8, m_byte h (by omega), bd1_some]
    by_cases e : t p = 32
    · rw [rn_y (by simpa [isSp] using e)]
      simp (disch := omega) only [nm_q, bd1_some, bd2_some, bd3_some, bd4_some, bd5_some, bd6_some, bd7_some, bd8_some, bd9_some, bd10_some, bd11_some, bd1_ite, ↓reduceIte, gd_nI, gb_nI, gb_ite, li, liL, nI_add, nI_1, pk_sub, pk_mul, pk_div, nI_clamp, nI_eq, nI_leI, nI_ltI, nI_eqn, nI_neq, nI_nn, nI_len, nI_ltn, ngI_le, ngI_lt, nng, sm10, sm8, shr_n, shl_n, and_1, fa_or, leT, leF, ltT, ltF, eqT, eqF]
      exact ih (p + 1) F (by omega) (by omega)
    · rw [rn_n (by simpa [isSp] using e)]
      simp (disch := omega) only [nm_q, bd1_some, bd2_some, bd3_some, bd4_some, bd5_some, bd6_some, bd7_some, bd8_some, bd9_some, bd10_some, bd11_some, bd1_ite, ↓reduceIte, gd_nI, gb_nI, gb_ite, li, liL, nI_add, nI_1, pk_sub, pk_mul, pk_div, nI_clamp, nI_eq, nI_leI, nI_ltI, nI_eqn, nI_neq, nI_nn, nI_len, nI_ltn, ngI_le, ngI_lt, nng, sm10, sm8, shr_n, shl_n, and_1, fa_or, leT, leF, ltT, ltF, eqT, eqF]
theorem m_neg (lo hi : Nat) (hlo : lo < 2 ^ 30) (hhi : hi < 2 ^ 30) : fX6_in (-nI 1).toInt64 (lN lo) (lN hi) = some (nI 0) := by
  rw [← nI_l (show lo < 2 ^ 31 by omega), ← nI_l (show hi < 2 ^ 31 by omega)]
  refine in_no (Or.inl ?_)
  rw [fa_lt, ngT (by omega), nI_toInt (by omega)]
  omega
theorem m_lt {n : Nat} {t : Nat → Nat} {tape : AI} (h : BT n t tape) (C : Int32 → Option (Int32 × Int32 × Int32 × Int32 × Int32 × Int32)) : ∀ c p F, p + c = n → c < F → fX6_takes_L82 tape (nI n) C F (nI p) = C (nI (rn (isLt t) c p)) := by
  have hn := h.1
  intro c
  induction c with
  | zero =>
    intro p F hp hF
    obtain ⟨F, rfl⟩ : ∃ m, F = m + 1 := ⟨F - 1, by omega⟩
    rw [fX6_takes_L82, m_byteE hn (by omega) (by omega), bd1_some, nm_q, show fX6_in (-nI 1).toInt64 97 122 = _ from m_neg 97 122 (by omega) (by omega), bd1_some, if_pos (show nI 0 = 0 from rfl)]
    rfl
  | succ c ih =>
    intro p F hp hF
    obtain ⟨F, rfl⟩ : ∃ m, F = m + 1 := ⟨F - 1, by omega⟩
    have b := (h.2 p (by omega)).2
    have ei := in_nI (j := t p) (a := 97) (b := 122) (by omega) (by omega) (by omega)
    rw [fX6_takes_L82, m_byte h (by omega), bd1_some]
    by_cases e : 97 ≤ t p ∧ t p ≤ 122
    · rw [rn_y (by simpa [isLt] using e)]
      rw [if_pos e] at ei
      simp (disch := omega) only [nm_q, bd1_some, bd2_some, bd3_some, bd4_some, bd5_some, bd6_some, bd7_some, bd8_some, bd9_some, bd10_some, bd11_some, bd1_ite, ↓reduceIte, gd_nI, gb_nI, gb_ite, li, liL, nI_add, nI_1, pk_sub, pk_mul, pk_div, nI_clamp, nI_eq, nI_leI, nI_ltI, nI_eqn, nI_neq, nI_nn, nI_len, nI_ltn, ngI_le, ngI_lt, nng, sm10, sm8, shr_n, shl_n, and_1, fa_or, leT, leF, ltT, ltF, eqT, eqF, ei]
      exact ih (p + 1) F (by omega) (by omega)
    · rw [rn_n (by unfold isLt; rw [← Bool.decide_and]; exact decide_eq_false e)]
      rw [if_neg e] at ei
      simp (disch := omega) only [nm_q, bd1_some, bd2_some, bd3_some, bd4_some, bd5_some, bd6_some, bd7_some, bd8_some, bd9_some, bd10_some, bd11_some, bd1_ite, ↓reduceIte, gd_nI, gb_nI, gb_ite, li, liL, nI_add, nI_1, pk_sub, pk_mul, pk_div, nI_clamp, nI_eq, nI_leI, nI_ltI, nI_eqn, nI_neq, nI_nn, nI_len, nI_ltn, ngI_le, ngI_lt, nng, sm10, sm8, shr_n, shl_n, and_1, fa_or, leT, leF, ltT, ltF, eqT, eqF, ei]
/-- the number in the digits from s on, as far as two digits go -/
def dgV (t : Nat → Nat) (s p : Nat) : Nat := if p ≤ s then 0 else if p ≤ s + 1 then t s - 48 else 10 * (t s - 48) + (t (s + 1) - 48)
theorem dgV_le {t : Nat → Nat} {s p : Nat} (h : ∀ j, s ≤ j → j < p → t j ≤ 57) : dgV t s p ≤ 99 := by
  unfold dgV
  by_cases c : p ≤ s
  · rw [if_pos c]; omega
  · rw [if_neg c]
    have h1 := h s (by omega) (by omega)
    by_cases d : p ≤ s + 1
    · rw [if_pos d]; omega
    · rw [if_neg d]
      have h2 := h (s + 1) (by omega) (by omega)
      omega
theorem m_dg {n : Nat} {t : Nat → Nat} {tape : AI} (h : BT n t tape) (s : Nat) (C : Int32 → Int32 → Option (Int32 × Int32 × Int32 × Int32 × Int32 × Int32)) : ∀ c p F, p + c = n → c < F → s ≤ p → (∀ j, s ≤ j → j < p → t j ≤ 57) → fX6_takes_L140 tape (nI n) (nI s) C F (nI p) (nI (dgV t s p)) = C (nI (rn (isDg t) c p)) (nI (dgV t s (rn (isDg t) c p))) := by
  have hn := h.1
  intro c
  induction c with
  | zero =>
    intro p F hp hF hs hv
    obtain ⟨F, rfl⟩ : ∃ m, F = m + 1 := ⟨F - 1, by omega⟩
    rw [fX6_takes_L140, m_byteE hn (by omega) (by omega), bd1_some, nm_q, show fX6_in (-nI 1).toInt64 48 57 = _ from m_neg 48 57 (by omega) (by omega), bd1_some, if_pos (show nI 0 = 0 from rfl)]
    rfl
  | succ c ih =>
    intro p F hp hF hs hv
    obtain ⟨F, rfl⟩ : ∃ m, F = m + 1 := ⟨F - 1, by omega⟩
    have b := (h.2 p (by omega)).2
    have ei := in_nI (j := t p) (a := 48) (b := 57) (by omega) (by omega) (by omega)
    rw [fX6_takes_L140, m_byte h (by omega), bd1_some]
    by_cases e : 48 ≤ t p ∧ t p ≤ 57
    · rw [rn_y (by simpa [isDg] using e)]
      rw [if_pos e] at ei
      have hv' : ∀ j, s ≤ j → j < p + 1 → t j ≤ 57 := fun j h1 h2 => by
        by_cases z : j = p
        · rw [z]; exact e.2
        · exact hv j h1 (by omega)
      by_cases d2 : s + 2 ≤ p
      · have ev : dgV t s (p + 1) = dgV t s p := by unfold dgV; rw [if_neg (by omega), if_neg (by omega), if_neg (by omega), if_neg (by omega)]
        have := ih (p + 1) F (by omega) (by omega) (by omega) hv'
        rw [ev] at this
        simp (disch := omega) only [nm_q, bd1_some, bd2_some, bd3_some, bd4_some, bd5_some, bd6_some, bd7_some, bd8_some, bd9_some, bd10_some, bd11_some, bd1_ite, ↓reduceIte, gd_nI, gb_nI, gb_ite, li, liL, nI_add, nI_1, pk_sub, pk_mul, pk_div, nI_clamp, nI_eq, nI_leI, nI_ltI, nI_eqn, nI_neq, nI_nn, nI_len, nI_ltn, ngI_le, ngI_lt, nng, sm10, sm8, shr_n, shl_n, and_1, fa_or, leT, leF, ltT, ltF, eqT, eqF, ei]
        exact this
      · have ev : dgV t s (p + 1) = 10 * dgV t s p + (t p - 48) := by
          by_cases d1 : p = s
          · subst d1
            unfold dgV
            rw [if_neg (by omega), if_pos (by omega), if_pos (by omega)]
            omega
          · have d1' : p = s + 1 := by omega
            subst d1'
            unfold dgV
            rw [if_neg (by omega), if_neg (by omega), if_neg (by omega), if_pos (by omega)]
        have hv2 := dgV_le hv
        have := ih (p + 1) F (by omega) (by omega) (by omega) hv'
        rw [ev] at this
        simp (disch := omega) only [nm_q, bd1_some, bd2_some, bd3_some, bd4_some, bd5_some, bd6_some, bd7_some, bd8_some, bd9_some, bd10_some, bd11_some, bd1_ite, ↓reduceIte, gd_nI, gb_nI, gb_ite, li, liL, nI_add, nI_1, pk_sub, pk_mul, pk_div, nI_clamp, nI_eq, nI_leI, nI_ltI, nI_eqn, nI_neq, nI_nn, nI_len, nI_ltn, ngI_le, ngI_lt, nng, sm10, sm8, shr_n, shl_n, and_1, fa_or, leT, leF, ltT, ltF, eqT, eqF, ei, m_byte h (show p < n by omega)]
        rw [show 10 * dgV t s p + t p - 48 = 10 * dgV t s p + (t p - 48) by omega]
        exact this
    · rw [rn_n (by unfold isDg; rw [← Bool.decide_and]; exact decide_eq_false e)]
      rw [if_neg e] at ei
      simp (disch := omega) only [nm_q, bd1_some, bd2_some, bd3_some, bd4_some, bd5_some, bd6_some, bd7_some, bd8_some, bd9_some, bd10_some, bd11_some, bd1_ite, ↓reduceIte, gd_nI, gb_nI, gb_ite, li, liL, nI_add, nI_1, pk_sub, pk_mul, pk_div, nI_clamp, nI_eq, nI_leI, nI_ltI, nI_eqn, nI_neq, nI_nn, nI_len, nI_ltn, ngI_le, ngI_lt, nng, sm10, sm8, shr_n, shl_n, and_1, fa_or, leT, leF, ltT, ltF, eqT, eqF, ei]
theorem m_dg0 {n : Nat} {t : Nat → Nat} {tape : AI} (h : BT n t tape) {s : Nat} (hs : s ≤ n) (C : Int32 → Int32 → Option (Int32 × Int32 × Int32 × Int32 × Int32 × Int32)) (F : Nat) (hF : 160 < F) : fX6_takes_L140 tape (nI n) (nI s) C F (nI s) 0 = C (nI (rn (isDg t) (n - s) s)) (nI (dgV t s (rn (isDg t) (n - s) s))) := by
  have hn := h.1
  have := m_dg h s C (n - s) s F (by omega) (by omega) (Nat.le_refl _) (fun j h1 h2 => by omega)
  rw [show dgV t s s = 0 by unfold dgV; rw [if_pos (Nat.le_refl _)]] at this
  exact this
theorem m_needs (x f w : Nat) (code : Int32) (fault wrongAt : Int32) (hx : x = 0 ∨ x = 1) : fX6_needs (nI x) code (nI w) fault wrongAt = some (if x = 0 ∧ fault = 0 then (code, nI w) else (fault, wrongAt)) := by
  unfold fX6_needs
  rcases hx with rfl | rfl
  · rw [if_pos (show nI 0 = 0 from rfl)]
    by_cases c : fault = 0
    · rw [if_pos c, if_pos ⟨rfl, c⟩]
    · rw [if_neg c, if_neg (fun q => c q.2)]
  · rw [if_neg (show ¬ nI 1 = 0 from n10), if_neg (fun q => absurd q.1 (by omega))]
/-- the reference's token: as it stands at a, or none -/
def Good (n : Nat) (t : Nat → Nat) (a : Nat) (pos frm sort value fault : Int32) : Prop := tkK n t a ≠ 4 ∧ pos = nI (tkE n t a) ∧ frm = nI (tkS n t a) ∧ sort = nI (tkK n t a) ∧ (tkK n t a = 2 → value = nI (tkV n t a)) ∧ fault = nI 0
def Badd (f w : Nat) (fault wrongAt : Int32) : Prop := 1 ≤ f ∧ f ≤ 5 ∧ w ≤ 160 ∧ fault = nI f ∧ wrongAt = nI w
def Sync (n : Nat) (t : Nat → Nat) (a : Nat) (pos frm sort value fault wrongAt : Int32) : Prop := Good n t a pos frm sort value fault ∨ tkK n t a = 4 ∧ Badd 1 (tkS n t a) fault wrongAt
theorem m_takes {n : Nat} {t : Nat → Nat} {tape : AI} {a : Nat} (h : BT n t tape) (ha : a ≤ n) (frm sort value wrongAt : Int32) : ∃ pos' frm' sort' value' fault' wrongAt', fX6_takes tape (nI n) (nI a) frm sort value (nI 0) wrongAt = some (pos', frm', sort', value', fault', wrongAt') ∧ Sync n t a pos' frm' sort' value' fault' wrongAt' := by
  have hn := h.1
  have hb := tkS_b (t := t) ha
  obtain ⟨F, hF⟩ : ∃ F, F = 4096 := ⟨_, rfl⟩
  rw [fX6_takes, if_pos (by decide), ← hF, m_sp h _ (n - a) a F (by omega) (by omega)]
  have hs : rn (isSp t) (n - a) a = tkS n t a := rfl
  rw [hs]
  by_cases c0 : n ≤ tkS n t a
  · rw [m_byteE hn c0 (by omega), bd1_some, if_neg (by decide)]
    have k : tkK n t a = 0 := by unfold tkK; rw [if_pos c0]
    have e : tkE n t a = tkS n t a := by unfold tkE; rw [if_pos c0]
    exact ⟨_, _, _, _, _, _, rfl, Or.inl ⟨by rw [k]; omega, by rw [e], rfl, by rw [k]; rfl, fun q => by rw [k] at q; omega, rfl⟩⟩
  · have b := (h.2 (tkS n t a) (by omega)).2
    rw [m_byte h (by omega), bd1_some, if_pos (show (0 : Int32) ≤ nI (t (tkS n t a)) from nI_le (a := 0) (by omega) (by omega)), nm_q, show fX6_in (nI (t (tkS n t a))).toInt64 97 122 = _ from in_nI (a := 97) (b := 122) (by omega) (by omega) (by omega), bd1_some]
    by_cases c2 : 97 ≤ t (tkS n t a) ∧ t (tkS n t a) ≤ 122
    · rw [if_pos c2, if_neg (show ¬ nI 1 = 0 from n10), m_lt h _ (n - tkS n t a) (tkS n t a) F (by omega) (by omega)]
      have l : isLt t (tkS n t a) = true := by simpa [isLt] using c2
      have k : tkK n t a = 1 := by unfold tkK; rw [if_neg c0, if_neg (by omega), if_pos l]
      have e : tkE n t a = rn (isLt t) (n - tkS n t a) (tkS n t a) := by unfold tkE; rw [if_neg c0, if_neg (by omega), if_pos l]
      exact ⟨_, _, _, _, _, _, rfl, Or.inl ⟨by rw [k]; omega, by rw [e], rfl, by rw [k]; rfl, fun q => by rw [k] at q; omega, rfl⟩⟩
    · have l : ¬ isLt t (tkS n t a) = true := by unfold isLt; rw [← Bool.decide_and]; simpa using c2
      rw [if_neg c2, if_pos (show nI 0 = 0 from rfl), nm_q, show fX6_in (nI (t (tkS n t a))).toInt64 48 57 = _ from in_nI (a := 48) (b := 57) (by omega) (by omega) (by omega), bd1_some]
      by_cases c3 : 48 ≤ t (tkS n t a) ∧ t (tkS n t a) ≤ 57
      · have g : isDg t (tkS n t a) = true := by simpa [isDg] using c3
        rw [if_pos c3, if_neg (show ¬ nI 1 = 0 from n10), m_dg0 h (show tkS n t a ≤ n by omega) _ F (by omega)]
        have e : tkE n t a = rn (isDg t) (n - tkS n t a) (tkS n t a) := by unfold tkE; rw [if_neg c0, if_neg (by omega), if_neg l, if_pos g]
        have eb := tkE_b (t := t) ha
        have hlt : tkS n t a < tkE n t a := eb.2.2 (by unfold tkK; rw [if_neg c0, if_neg (by omega), if_neg l, if_pos g]; split <;> omega)
        rw [← e, nm_q, pk_sub (by omega)]
        by_cases c4 : tkE n t a ≤ tkS n t a + 2
        · have k : tkK n t a = 2 := by unfold tkK; rw [if_neg c0, if_neg (by omega), if_neg l, if_pos g, ← e, if_pos c4]
          rw [if_neg (show ¬ (2 : Int32) < nI (tkE n t a - tkS n t a) by rw [show (2 : Int32) = nI 2 from rfl, fa_lt, nI_toInt (by omega), nI_toInt (by omega)]; omega), bd1_some, show fX6_needs 1 1 (nI (tkS n t a)) (nI 0) wrongAt = some (nI 0, wrongAt) from rfl, bd2_some]
          refine ⟨_, _, _, _, _, _, rfl, Or.inl ⟨by rw [k]; omega, rfl, rfl, by rw [k]; rfl, fun _ => ?_, rfl⟩⟩
          congr 1
          unfold dgV tkV
          rw [if_neg (by omega), ← e]
        · have k : tkK n t a = 4 := by unfold tkK; rw [if_neg c0, if_neg (by omega), if_neg l, if_pos g, ← e, if_neg c4]
          rw [if_pos (show (2 : Int32) < nI (tkE n t a - tkS n t a) by rw [show (2 : Int32) = nI 2 from rfl, fa_lt, nI_toInt (by omega), nI_toInt (by omega)]; omega), bd1_some, show fX6_needs 0 1 (nI (tkS n t a)) (nI 0) wrongAt = some (nI 1, nI (tkS n t a)) from rfl, bd2_some]
          exact ⟨_, _, _, _, _, _, rfl, Or.inr ⟨k, by omega, by omega, by omega, rfl, rfl⟩⟩
      · have g : ¬ isDg t (tkS n t a) = true := by unfold isDg; rw [← Bool.decide_and]; simpa using c3
        rw [if_neg c3, if_pos (show nI 0 = 0 from rfl)]
        by_cases c1 : t (tkS n t a) = 59
        · have k : tkK n t a = 3 := by unfold tkK; rw [if_neg c0, if_pos c1]
          have e : tkE n t a = tkS n t a + 1 := by unfold tkE; rw [if_neg c0, if_pos c1]
          rw [c1, if_pos (show nI 59 = 59 from rfl), bd1_some, show fX6_needs 1 1 (nI (tkS n t a)) (nI 0) wrongAt = some (nI 0, wrongAt) from rfl, bd2_some, nm_q]
          exact ⟨_, _, _, _, _, _, rfl, Or.inl ⟨by rw [k]; omega, by rw [e, nI_1], rfl, by rw [k]; rfl, fun q => by rw [k] at q; omega, rfl⟩⟩
        · have k : tkK n t a = 4 := by unfold tkK; rw [if_neg c0, if_neg c1, if_neg l, if_neg g]
          rw [if_neg (show ¬ nI (t (tkS n t a)) = 59 by rw [show (59 : Int32) = nI 59 from rfl, nI_eq (by omega) (by omega)]; exact c1), bd1_some, show fX6_needs 0 1 (nI (tkS n t a)) (nI 0) wrongAt = some (nI 1, nI (tkS n t a)) from rfl, bd2_some]
          exact ⟨_, _, _, _, _, _, rfl, Or.inr ⟨k, by omega, by omega, by omega, rfl, rfl⟩⟩
theorem m_takesF {f : Nat} {tape : AI} (taped pos frm sort value wrongAt : Int32) (h1 : 1 ≤ f) (h5 : f ≤ 5) : fX6_takes tape taped pos frm sort value (nI f) wrongAt = some (pos, frm, sort, value, nI f, wrongAt) := by
  rw [fX6_takes, if_neg (show ¬ nI f ≤ 0 by rw [show (0 : Int32) = nI 0 from rfl, nI_leI (by omega) (by omega)]; omega)]
