-- geometry and rules, both sides
def onP (p w : Nat) : Option Nat := if w = 0 then (if p % 8 < 7 then some (p + 1) else none) else if w = 1 then (if p / 8 < 7 then some (p + 8) else none) else if w = 2 then (if 0 < p % 8 then some (p - 1) else none) else if w = 3 then (if 0 < p / 8 then some (p - 8) else none) else none
theorem onP_lt : ∀ {p w q : Nat}, p < 64 → onP p w = some q → q < 64 := by
  intro p w q hp h
  unfold onP at h
  split at h
  · split at h <;> simp at h; omega
  split at h
  · split at h <;> simp at h; omega
  split at h
  · split at h <;> simp at h; omega
  split at h
  · split at h <;> simp at h; omega
  · simp at h
def eC (o : Option Nat) : Int32 := match o with
  | none => -nI 1
  | some q => nI q
def eM (o : Option Nat) : Int32 := match o with
  | none => -nI 4
  | some q => nI (cell q)
theorem c_on : ∀ p, p < 64 → ∀ w, w < 5 → fX3_onFrom (nI p) (nI w) = some (eC (onP p w)) := by decide +kernel
theorem m_on : ∀ p, p < 64 → ∀ w, w < 4 → fX6_beside (nI (cell p)) (nI w) = some (eM (onP p w)) := by decide +kernel
theorem c_place {p : Nat} (h : p < 64) : fX3_placeOf (nI (cell p)) = some (nI p) := by
  unfold cell
  simp (disch := omega) only [fX3_placeOf, nm_q, bd1_some, bd2_some, bd3_some, bd4_some, bd5_some, bd6_some, bd7_some, bd8_some, bd9_some, bd10_some, bd11_some, bd1_ite, ↓reduceIte, gd_nI, gb_nI, gb_ite, li, liL, nI_add, nI_1, pk_sub, pk_mul, pk_div, nI_clamp, nI_eq, nI_leI, nI_ltI, nI_eqn, nI_neq, nI_nn, nI_len, nI_ltn, ngI_le, ngI_lt, nng, sm10, sm8, shr_n, shl_n, and_1, fa_or]
  congr 2
  omega
theorem c_cell {p : Nat} (h : p < 64) : fX3_cellOf (nI p) = some (nI (cell p)) := by
  unfold cell
  simp (disch := omega) only [fX3_cellOf, nm_q, bd1_some, bd2_some, bd3_some, bd4_some, bd5_some, bd6_some, bd7_some, bd8_some, bd9_some, bd10_some, bd11_some, bd1_ite, ↓reduceIte, gd_nI, gb_nI, gb_ite, li, liL, nI_add, nI_1, pk_sub, pk_mul, pk_div, nI_clamp, nI_eq, nI_leI, nI_ltI, nI_eqn, nI_neq, nI_nn, nI_len, nI_ltn, ngI_le, ngI_lt, nng, sm10, sm8, shr_n, shl_n, and_1, fa_or]
  congr 2
  omega
theorem m_cell {p : Nat} (h : p < 64) : fX6_cellAt (nI p) = some (nI (cell p)) := by
  unfold cell
  simp (disch := omega) only [fX6_cellAt, nm_q, bd1_some, bd2_some, bd3_some, bd4_some, bd5_some, bd6_some, bd7_some, bd8_some, bd9_some, bd10_some, bd11_some, bd1_ite, ↓reduceIte, gd_nI, gb_nI, gb_ite, li, liL, nI_add, nI_1, pk_sub, pk_mul, pk_div, nI_clamp, nI_eq, nI_leI, nI_ltI, nI_eqn, nI_neq, nI_nn, nI_len, nI_ltn, ngI_le, ngI_lt, nng, sm10, sm8, shr_n, shl_n, and_1, fa_or]
theorem cell_lt {p : Nat} (h : p < 64) : cell p < 78 := by unfold cell; omega
theorem cell_inj {p q : Nat} (hp : p < 64) (hq : q < 64) : cell p = cell q ↔ p = q := by unfold cell; omega
theorem cell_d {p : Nat} : p < 64 → cell p / 10 = p / 8 := by unfold cell; omega
theorem cell_m {p : Nat} : p < 64 → cell p % 10 = p % 8 := by unfold cell; omega
theorem isC_tab : ∀ j, j < 80 → (if j % 10 < 8 then nI j = nI (cell (j / 10 * 8 + j % 10)) ∧ fX3_isCell (nI j) = some (nI 1) ∧ fX6_isCell (nI j) = some (nI 1) else fX3_isCell (nI j) = some (nI 0) ∧ fX6_isCell (nI j) = some (nI 0)) := by decide +kernel
theorem isC_neg {p : Int32} (h : p < nI 0) : fX3_isCell p = some (nI 0) ∧ fX6_isCell p = some (nI 0) := by
  unfold fX3_isCell fX6_isCell
  rw [if_pos (show p < 0 from h), if_pos (show p < 0 from h)]
  exact ⟨rfl, rfl⟩
theorem isC (p : Int32) : (∃ q, q < 64 ∧ p = nI (cell q) ∧ fX3_isCell p = some (nI 1) ∧ fX6_isCell p = some (nI 1)) ∨ (fX3_isCell p = some (nI 0) ∧ fX6_isCell p = some (nI 0)) := by
  by_cases h : p < nI 0
  · exact Or.inr (isC_neg h)
  · obtain ⟨j, hj, rfl⟩ := nI_of h
    by_cases c : j < 80
    · have t := isC_tab j c
      by_cases d : j % 10 < 8
      · rw [if_pos d] at t
        exact Or.inl ⟨_, by omega, t.1, t.2⟩
      · rw [if_neg d] at t
        exact Or.inr t
    · refine Or.inr ⟨?_, ?_⟩
      · simp (disch := omega) only [fX3_isCell, nm_q, bd1_some, bd2_some, bd3_some, bd4_some, bd5_some, bd6_some, bd7_some, bd8_some, bd9_some, bd10_some, bd11_some, bd1_ite, ↓reduceIte, gd_nI, gb_nI, gb_ite, li, liL, nI_add, nI_1, pk_sub, pk_mul, pk_div, nI_clamp, nI_eq, nI_leI, nI_ltI, nI_eqn, nI_neq, nI_nn, nI_len, nI_ltn, ngI_le, ngI_lt, nng, sm10, sm8, shr_n, shl_n, and_1, fa_or, leT, leF, ltT, ltF, eqT, eqF]
      · simp (disch := omega) only [fX6_isCell, nm_q, bd1_some, bd2_some, bd3_some, bd4_some, bd5_some, bd6_some, bd7_some, bd8_some, bd9_some, bd10_some, bd11_some, bd1_ite, ↓reduceIte, gd_nI, gb_nI, gb_ite, li, liL, nI_add, nI_1, pk_sub, pk_mul, pk_div, nI_clamp, nI_eq, nI_leI, nI_ltI, nI_eqn, nI_neq, nI_nn, nI_len, nI_ltn, ngI_le, ngI_lt, nng, sm10, sm8, shr_n, shl_n, and_1, fa_or, leT, leF, ltT, ltF, eqT, eqF]
theorem isC_y {q : Nat} (h : q < 64) : fX3_isCell (nI (cell q)) = some (nI 1) ∧ fX6_isCell (nI (cell q)) = some (nI 1) := by
  have t := isC_tab (cell q) (by have := cell_lt h; omega)
  rw [if_pos (by rw [cell_m h]; omega)] at t
  exact t.2
theorem lN_of {x : Int64} {n : Nat} (h : x.toBitVec.toNat = n) : x = lN n ∧ n < 2 ^ 64 := by
  have h2 : n < 2 ^ 64 := h ▸ x.toBitVec.isLt
  refine ⟨wb_inj (BitVec.eq_of_toNat_eq ?_), h2⟩
  rw [wb_tn h2, h]
theorem cmp0 {n : Nat} (h : n < 2) : (lg_cmp (lN n) (0 : Int64) = 0) = (n = 0) := by
  have : n = 0 ∨ n = 1 := by omega
  rcases this with rfl | rfl
  · exact propext ⟨fun _ => rfl, fun _ => by decide⟩
  · exact propext ⟨fun h => absurd h (by decide), fun h => absurd h (by decide)⟩
theorem c_has {W p : Nat} (hW : W < 2 ^ 64) (hp : p < 64) : fX3_has (lN W) (nI p) = some (if W.testBit p then nI 1 else nI 0) := by
  simp only [fX3_has, nm]
  rw [wb_bit hW hp]
  have : W / 2 ^ p % 2 = 0 ∨ W / 2 ^ p % 2 = 1 := by omega
  rcases this with e | e
  · rw [e, if_neg (show ¬ W.testBit p = true by rw [(tb0 W p).mp e]; decide)]; decide
  · rw [e, if_pos ((tb1 W p).mp e)]; decide
theorem by_tb {W x y : Nat} (hy : y < 8) : W / 2 ^ (8 * x) % 256 / 2 ^ y % 2 = W / 2 ^ (8 * x + y) % 2 := by
  have h1 : (W / 2 ^ (8 * x) % 2 ^ 8).testBit y = W.testBit (8 * x + y) := by
    rw [Nat.testBit_mod_two_pow, Nat.testBit_div_two_pow]
    simp [hy, Nat.add_comm]
  rw [Nat.testBit_eq_decide_div_mod_eq, Nat.testBit_eq_decide_div_mod_eq] at h1
  have h2 := decide_eq_decide.mp h1
  have a1 : W / 2 ^ (8 * x) % 2 ^ 8 / 2 ^ y % 2 < 2 := Nat.mod_lt _ (by omega)
  have a2 : W / 2 ^ (8 * x + y) % 2 < 2 := Nat.mod_lt _ (by omega)
  show W / 2 ^ (8 * x) % 2 ^ 8 / 2 ^ y % 2 = _
  omega
/-- the reference's walls, a byte a column -/
def WB (W : Nat) (now : AI) : Prop := ∀ x, x < 8 → now x = nI (W / 2 ^ (8 * x) % 256)
theorem m_wall {W p : Nat} {now : AI} (h : WB W now) (hp : p < 64) : fX6_isWall (nI (cell p)) now = some (if W.testBit p then nI 1 else nI 0) := by
  have e : now (cell p / 10) = nI (W / 2 ^ (8 * (p / 8)) % 256) := by rw [cell_d hp]; exact h _ (by omega)
  have hb : W / 2 ^ (8 * (p / 8)) % 256 < 256 := Nat.mod_lt _ (by omega)
  have hc := cell_lt hp
  simp (disch := omega) only [fX6_isWall, nm_q, bd1_some, bd2_some, bd3_some, bd4_some, bd5_some, bd6_some, bd7_some, bd8_some, bd9_some, bd10_some, bd11_some, bd1_ite, ↓reduceIte, gd_nI, gb_nI, gb_ite, li, liL, nI_add, nI_1, pk_sub, pk_mul, pk_div, nI_clamp, nI_eq, nI_leI, nI_ltI, nI_eqn, nI_neq, nI_nn, nI_len, nI_ltn, ngI_le, ngI_lt, nng, sm10, sm8, shr_n, shl_n, and_1, fa_or, e]
  rw [cell_m hp, by_tb (by omega)]
  rw [show 8 * (p / 8) + p % 8 = p by omega]
  simp only [tb1, so_ite]
theorem m_ahead {W p : Nat} {st : AI} (h : WB W st) (hp : p < 64) : fX6_isWallAhead (nI (cell p)) st = some (if W.testBit p then nI 1 else nI 0) := by
  have e : st (cell p / 10) = nI (W / 2 ^ (8 * (p / 8)) % 256) := by rw [cell_d hp]; exact h _ (by omega)
  have hb : W / 2 ^ (8 * (p / 8)) % 256 < 256 := Nat.mod_lt _ (by omega)
  have hc := cell_lt hp
  simp (disch := omega) only [fX6_isWallAhead, nm_q, bd1_some, bd2_some, bd3_some, bd4_some, bd5_some, bd6_some, bd7_some, bd8_some, bd9_some, bd10_some, bd11_some, bd1_ite, ↓reduceIte, gd_nI, gb_nI, gb_ite, li, liL, nI_add, nI_1, pk_sub, pk_mul, pk_div, nI_clamp, nI_eq, nI_leI, nI_ltI, nI_eqn, nI_neq, nI_nn, nI_len, nI_ltn, ngI_le, ngI_lt, nng, sm10, sm8, shr_n, shl_n, and_1, fa_or, e]
  rw [cell_m hp, by_tb (by omega)]
  rw [show 8 * (p / 8) + p % 8 = p by omega]
  simp only [tb1, so_ite]
def rch (k f : Nat) : Nat := if k = 1 then (f + 1) / 2 else if k = 2 then f - 1 else if k = 3 then 2 * ((f + 1) / 2) else f
theorem c_reach : ∀ k, k < 4 → ∀ f, f < 10 → 1 ≤ f → fX3_reachBy (nI k) (nI f) = some (nI (rch k f)) := by decide +kernel
theorem bits_lp {v : Nat} (hv : v < 2 ^ 30) (K : Int32 → Int32 → Option Int32) : ∀ c i n, i + c = 10 → c < n → fX6_bitsOf_L4 (nI v) K n (nI i) (nI (ct (fun k => v.testBit k) i)) = K (nI 10) (nI (ct (fun k => v.testBit k) 10)) := by
  intro c
  induction c with
  | zero =>
    intro i n h hn
    obtain ⟨n, rfl⟩ : ∃ m, n = m + 1 := ⟨n - 1, by omega⟩
    obtain rfl : i = 10 := by omega
    rw [fX6_bitsOf_L4]
    simp (disch := omega) only [nm_q, bd1_some, bd2_some, bd3_some, bd4_some, bd5_some, bd6_some, bd7_some, bd8_some, bd9_some, bd10_some, bd11_some, bd1_ite, ↓reduceIte, gd_nI, gb_nI, gb_ite, li, liL, nI_add, nI_1, pk_sub, pk_mul, pk_div, nI_clamp, nI_eq, nI_leI, nI_ltI, nI_eqn, nI_neq, nI_nn, nI_len, nI_ltn, ngI_le, ngI_lt, nng, sm10, sm8, shr_n, shl_n, and_1, fa_or, leT, leF, ltT, ltF, eqT, eqF]
  | succ c ih =>
    intro i n h hn
    obtain ⟨n, rfl⟩ : ∃ m, n = m + 1 := ⟨n - 1, by omega⟩
    rw [fX6_bitsOf_L4]
    simp (disch := omega) only [nm_q, bd1_some, bd2_some, bd3_some, bd4_some, bd5_some, bd6_some, bd7_some, bd8_some, bd9_some, bd10_some, bd11_some, bd1_ite, ↓reduceIte, gd_nI, gb_nI, gb_ite, li, liL, nI_add, nI_1, pk_sub, pk_mul, pk_div, nI_clamp, nI_eq, nI_leI, nI_ltI, nI_eqn, nI_neq, nI_nn, nI_len, nI_ltn, ngI_le, ngI_lt, nng, sm10, sm8, shr_n, shl_n, and_1, fa_or, leT, leF, ltT, ltF, eqT, eqF]
    rw [← ih (i + 1) n (by omega) (by omega), ct]
    congr 3
    by_cases c : v.testBit i = true
    · rw [if_pos c]; exact (tb1 v i).mpr c
    · rw [if_neg c]; exact (tb0 v i).mpr (by simpa using c)
theorem m_bits {v : Nat} (hv : v < 2 ^ 30) : fX6_bitsOf (nI v) = some (nI (ct (fun k => v.testBit k) 10)) := by
  unfold fX6_bitsOf
  exact bits_lp hv _ 10 0 4096 rfl (by omega)
theorem by_ct (W x : Nat) : ct (fun k => (W / 2 ^ (8 * x) % 256).testBit k) 10 = ct (fun k => W.testBit (8 * x + k)) 8 := by
  rw [show (10 : Nat) = 8 + 2 from rfl, ct_split]
  have e : ∀ k, (W / 2 ^ (8 * x) % 256).testBit k = (decide (k < 8) && W.testBit (8 * x + k)) := fun k => by
    show (W / 2 ^ (8 * x) % 2 ^ 8).testBit k = _
    rw [Nat.testBit_mod_two_pow, Nat.testBit_div_two_pow, Nat.add_comm]
  rw [show ct (fun k => (W / 2 ^ (8 * x) % 256).testBit (8 + k)) 2 = 0 by simp [ct, e]]
  exact ct_cong fun k hk => by simp [e, hk]
theorem walls_lp {W : Nat} {now : AI} (hw : WB W now) (K : Int32 → Int32 → Option Int32) : ∀ c i n, i + c = 8 → c < n → fX6_walls_L4 now K n (nI i) (nI (ct (fun k => W.testBit k) (8 * i))) = K (nI 8) (nI (ct (fun k => W.testBit k) 64)) := by
  intro c
  induction c with
  | zero =>
    intro i n h hn
    obtain ⟨n, rfl⟩ : ∃ m, n = m + 1 := ⟨n - 1, by omega⟩
    obtain rfl : i = 8 := by omega
    rw [fX6_walls_L4]
    simp (disch := omega) only [nm_q, bd1_some, bd2_some, bd3_some, bd4_some, bd5_some, bd6_some, bd7_some, bd8_some, bd9_some, bd10_some, bd11_some, bd1_ite, ↓reduceIte, gd_nI, gb_nI, gb_ite, li, liL, nI_add, nI_1, pk_sub, pk_mul, pk_div, nI_clamp, nI_eq, nI_leI, nI_ltI, nI_eqn, nI_neq, nI_nn, nI_len, nI_ltn, ngI_le, ngI_lt, nng, sm10, sm8, shr_n, shl_n, and_1, fa_or, leT, leF, ltT, ltF, eqT, eqF]
  | succ c ih =>
    intro i n h hn
    obtain ⟨n, rfl⟩ : ∃ m, n = m + 1 := ⟨n - 1, by omega⟩
    rw [fX6_walls_L4]
    have hb : W / 2 ^ (8 * i) % 256 < 256 := Nat.mod_lt _ (by omega)
    simp (disch := omega) only [nm_q, bd1_some, bd2_some, bd3_some, bd4_some, bd5_some, bd6_some, bd7_some, bd8_some, bd9_some, bd10_some, bd11_some, bd1_ite, ↓reduceIte, gd_nI, gb_nI, gb_ite, li, liL, nI_add, nI_1, pk_sub, pk_mul, pk_div, nI_clamp, nI_eq, nI_leI, nI_ltI, nI_eqn, nI_neq, nI_nn, nI_len, nI_ltn, ngI_le, ngI_lt, nng, sm10, sm8, shr_n, shl_n, and_1, fa_or, leT, leF, ltT, ltF, eqT, eqF, hw i (by omega), m_bits]
    rw [← ih (i + 1) n (by omega) (by omega)]
    congr 2
    rw [by_ct, Nat.mul_add, ct_split]
theorem m_walls {W : Nat} {now : AI} (hw : WB W now) : fX6_walls now = some (nI (pcnt W)) := by
  unfold fX6_walls
  exact walls_lp hw _ 8 0 4096 rfl (by omega)
theorem c_bits : ∀ v, v < 1024 → fJ6_bitCount_0f7a4 (nI v) = some (nI (ct (fun k => v.testBit k) 10)) := by decide +kernel
