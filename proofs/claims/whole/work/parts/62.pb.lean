-- rows for the pure work: the combinators, numbers in normal form 'nI n'
/-- a row that the machine must not take for a mere unfolding -/
theorem nrf {α : Sort _} {a b : α} (h : a = b) : a = b := h
theorem nm_q {α β : Type} (e : α) (k : α → β) : nm e k = k e := nrf rfl
theorem bd1_some {α β : Type} (x : α) (k : α → Option β) : bd1 (some x) k = k x := nrf rfl
theorem bd2_some {α1 α2 β : Type} (x : α1) (y : α2) (k : α1 → α2 → Option β) : bd2 (some (x, y)) k = k x y := nrf rfl
theorem bd3_some {α1 α2 α3 β : Type} (x : α1) (y : α2) (z : α3) (k : α1 → α2 → α3 → Option β) : bd3 (some (x, y, z)) k = k x y z := nrf rfl
theorem bd4_some {α1 α2 α3 α4 β : Type} (x : α1) (y : α2) (z : α3) (u : α4) (k : α1 → α2 → α3 → α4 → Option β) : bd4 (some (x, y, z, u)) k = k x y z u := nrf rfl
theorem bd5_some {α1 α2 α3 α4 α5 β : Type} (x : α1) (y : α2) (z : α3) (u : α4) (v : α5) (k : α1 → α2 → α3 → α4 → α5 → Option β) : bd5 (some (x, y, z, u, v)) k = k x y z u v := nrf rfl
theorem bd6_some {α1 α2 α3 α4 α5 α6 β : Type} (x : α1) (y : α2) (z : α3) (u : α4) (v : α5) (w : α6) (k : α1 → α2 → α3 → α4 → α5 → α6 → Option β) : bd6 (some (x, y, z, u, v, w)) k = k x y z u v w := nrf rfl
theorem bd7_some {α1 α2 α3 α4 α5 α6 α7 β : Type} (x : α1) (y : α2) (z : α3) (u : α4) (v : α5) (w : α6) (a : α7) (k : α1 → α2 → α3 → α4 → α5 → α6 → α7 → Option β) : bd7 (some (x, y, z, u, v, w, a)) k = k x y z u v w a := nrf rfl
theorem bd8_some {α1 α2 α3 α4 α5 α6 α7 α8 β : Type} (x : α1) (y : α2) (z : α3) (u : α4) (v : α5) (w : α6) (a : α7) (b : α8) (k : α1 → α2 → α3 → α4 → α5 → α6 → α7 → α8 → Option β) : bd8 (some (x, y, z, u, v, w, a, b)) k = k x y z u v w a b := nrf rfl
theorem bd9_some {α1 α2 α3 α4 α5 α6 α7 α8 α9 β : Type} (x : α1) (y : α2) (z : α3) (u : α4) (v : α5) (w : α6) (a : α7) (b : α8) (c : α9) (k : α1 → α2 → α3 → α4 → α5 → α6 → α7 → α8 → α9 → Option β) : bd9 (some (x, y, z, u, v, w, a, b, c)) k = k x y z u v w a b c := nrf rfl
theorem bd10_some {α1 α2 α3 α4 α5 α6 α7 α8 α9 α10 β : Type} (x : α1) (y : α2) (z : α3) (u : α4) (v : α5) (w : α6) (a : α7) (b : α8) (c : α9) (d : α10) (k : α1 → α2 → α3 → α4 → α5 → α6 → α7 → α8 → α9 → α10 → Option β) : bd10 (some (x, y, z, u, v, w, a, b, c, d)) k = k x y z u v w a b c d := nrf rfl
theorem bd11_some {α1 α2 α3 α4 α5 α6 α7 α8 α9 α10 α11 β : Type} (x : α1) (y : α2) (z : α3) (u : α4) (v : α5) (w : α6) (a : α7) (b : α8) (c : α9) (d : α10) (e : α11) (k : α1 → α2 → α3 → α4 → α5 → α6 → α7 → α8 → α9 → α10 → α11 → Option β) : bd11 (some (x, y, z, u, v, w, a, b, c, d, e)) k = k x y z u v w a b c d e := nrf rfl
theorem bd1_ite {α β : Type} (c : Prop) [Decidable c] (x y : α) (k : α → Option β) : bd1 (if c then some x else some y) k = k (if c then x else y) := by
  by_cases h : c
  · rw [if_pos h, if_pos h]; rfl
  · rw [if_neg h, if_neg h]; rfl
theorem gd_nI {β : Type} {n N : Nat} (k : Option β) (h : n < N) (hN : N < 2 ^ 31) : gd (nI n) N k = k := if_neg (nI_in h hN)
theorem gb_nI {β : Type} {n : Nat} (k : Option β) (h : n ≤ 1) : gb (nI n) k = k := by
  have : n = 0 ∨ n = 1 := by omega
  rcases this with rfl | rfl <;> rfl
theorem gb_ite {β : Type} (c : Prop) [Decidable c] (k : Option β) : gb (if c then nI 1 else nI 0) k = k := by
  by_cases h : c
  · rw [if_pos h]; rfl
  · rw [if_neg h]; rfl
theorem li (n : Nat) : (no_index (OfNat.ofNat n) : Int32) = nI n := Int32.toBitVec_inj.mp rfl
theorem liL (n : Nat) : (no_index (OfNat.ofNat n) : Int64) = lN n := Int64.toBitVec_inj.mp rfl
theorem ngT {b : Nat} (h : b < 2 ^ 31) : (-nI b).toInt = -(b : Int) := sb_negT h
theorem nI_eqn {a b : Nat} (ha : a < 2 ^ 31) (h0 : 0 < b) (hb : b < 2 ^ 31) : (nI a = -nI b) = False := by
  refine eq_false fun e => ?_
  have := (fa_eq _ _).mp e
  rw [ngT hb, nI_toInt ha] at this
  omega
theorem nI_neq {a b : Nat} (ha : a < 2 ^ 31) (h0 : 0 < b) (hb : b < 2 ^ 31) : (-nI b = nI a) = False := by
  refine eq_false fun e => ?_
  have := (fa_eq _ _).mp e
  rw [ngT hb, nI_toInt ha] at this
  omega
theorem nI_nn {a b : Nat} (ha : a < 2 ^ 31) (hb : b < 2 ^ 31) : (-nI a = -nI b) ↔ a = b := by
  rw [fa_eq, ngT ha, ngT hb]
  omega
theorem nI_len {a b : Nat} (ha : a < 2 ^ 31) (h0 : 0 < b) (hb : b < 2 ^ 31) : (nI a ≤ -nI b) = False := by
  refine eq_false fun e => ?_
  have := (fa_le _ _).mp e
  rw [ngT hb, nI_toInt ha] at this
  omega
theorem nI_ltn {a b : Nat} (ha : a < 2 ^ 31) (h0 : 0 < b) (hb : b < 2 ^ 31) : (nI a < -nI b) = False := by
  refine eq_false fun e => ?_
  have := (fa_lt _ _).mp e
  rw [ngT hb, nI_toInt ha] at this
  omega
theorem ngI_le {a b : Nat} (ha : a < 2 ^ 31) (hb : b < 2 ^ 31) : (-nI b ≤ nI a) = True := by
  refine eq_true ?_
  rw [fa_le, ngT hb, nI_toInt ha]
  omega
theorem ngI_lt {a b : Nat} (ha : a < 2 ^ 31) (h0 : 0 < b) (hb : b < 2 ^ 31) : (-nI b < nI a) = True := by
  refine eq_true ?_
  rw [fa_lt, ngT hb, nI_toInt ha]
  omega
theorem nng {a b : Nat} (ha : a < 2 ^ 31) (hb : b < 2 ^ 31) : (-nI a ≤ -nI b) ↔ b ≤ a := sb_nle ha hb
theorem sm10 (a : Nat) : a - a / 10 * 10 = a % 10 := by omega
theorem sm8 (a : Nat) : a - a / 8 * 8 = a % 8 := by omega
theorem shr_n {v k : Nat} (hv : v < 2 ^ 31) (hk : k < 32) : nI v >>> (nI k &&& nI 31) = nI (v / 2 ^ k) := pk_shrN hv _ k (s_l k hk)
theorem shl_n {a k : Nat} (h : a * 2 ^ k < 2 ^ 32) (hk : k < 32) : nI a <<< (nI k &&& nI 31) = nI (a * 2 ^ k) := pk_shlN _ k (s_l k hk) h
theorem and_1 (a : Nat) : nI a &&& nI 1 = nI (a % 2) := fa_mask a 1
theorem tb1 (v k : Nat) : v / 2 ^ k % 2 = 1 ↔ v.testBit k = true := by
  rw [Nat.testBit_eq_decide_div_mod_eq]
  simp
theorem tb0 (v k : Nat) : v / 2 ^ k % 2 = 0 ↔ v.testBit k = false := by
  rw [Nat.testBit_eq_decide_div_mod_eq]
  simp
/-- an int that isn't negative and lies below a bound -/
theorem rg (x : Int32) (n : Nat) (hn : n < 2 ^ 30) : (∃ j, j ≤ n ∧ x = nI j) ∨ x < nI 0 ∨ nI n < x := by
  rcases pk_ix x (n := n + 1) (by omega) with h | h | ⟨j, h, e⟩
  · exact Or.inr (Or.inl h)
  · refine Or.inr (Or.inr ?_)
    rw [fa_lt, nI_toInt (by omega)]
    rw [fa_le, nI_toInt (by omega)] at h
    omega
  · exact Or.inl ⟨j, by omega, e⟩
/-- the reference's test of bounds -/
theorem in_no {p lo hi : Int32} (h : p < lo ∨ hi < p) : fX6_in p.toInt64 lo.toInt64 hi.toInt64 = some 0 := by
  unfold fX6_in lg_cmp
  rw [fa_lt, fa_lt] at h
  have e1 : p.toInt64 > lo.toInt64 ↔ lo.toInt < p.toInt := by show lo.toInt64 < p.toInt64 ↔ _; rw [fa_wide_lt, fa_lt]
  have e2 : p.toInt64 = lo.toInt64 ↔ p.toInt = lo.toInt := by rw [fa_wide_eq, fa_eq]
  have e3 : p.toInt64 > hi.toInt64 ↔ hi.toInt < p.toInt := by show hi.toInt64 < p.toInt64 ↔ _; rw [fa_wide_lt, fa_lt]
  rcases h with h | h
  · rw [if_neg (show ¬ p.toInt64 > lo.toInt64 from fun q => by have := e1.mp q; omega), if_neg (show ¬ p.toInt64 = lo.toInt64 from fun q => by have := e2.mp q; omega)]
    rw [if_pos (by decide)]
  · rw [if_pos (e3.mpr h)]
    by_cases c1 : p.toInt64 > lo.toInt64
    · rw [if_pos c1, if_neg (by decide), if_pos (by decide)]
    · rw [if_neg c1]
      by_cases c2 : p.toInt64 = lo.toInt64
      · rw [if_pos c2, if_neg (by decide), if_pos (by decide)]
      · rw [if_neg c2, if_pos (by decide)]
theorem in_yes {p lo hi : Int32} (h : lo ≤ p ∧ p ≤ hi) : fX6_in p.toInt64 lo.toInt64 hi.toInt64 = some 1 := by
  unfold fX6_in lg_cmp
  rw [fa_le, fa_le] at h
  have e1 : p.toInt64 > lo.toInt64 ↔ lo.toInt < p.toInt := by show lo.toInt64 < p.toInt64 ↔ _; rw [fa_wide_lt, fa_lt]
  have e2 : p.toInt64 = lo.toInt64 ↔ p.toInt = lo.toInt := by rw [fa_wide_eq, fa_eq]
  have e3 : p.toInt64 > hi.toInt64 ↔ hi.toInt < p.toInt := by show hi.toInt64 < p.toInt64 ↔ _; rw [fa_wide_lt, fa_lt]
  rw [if_neg (show ¬ p.toInt64 > hi.toInt64 from fun q => by have := e3.mp q; omega)]
  have c3 : ¬ (0 : Int32) < (if p.toInt64 = hi.toInt64 then (0 : Int32) else -1) := by
    by_cases c : p.toInt64 = hi.toInt64
    · rw [if_pos c]; decide
    · rw [if_neg c]; decide
  rw [if_neg c3]
  by_cases c1 : p.toInt64 > lo.toInt64
  · rw [if_pos c1, if_neg (by decide)]
  · rw [if_neg c1, if_pos (e2.mpr (by have := mt e1.mpr c1; omega)), if_neg (by decide)]
/-- both ways of a test of bounds a .. b -/
theorem in_rg (p : Int32) (a b : Nat) (ha : a ≤ b) (hb : b < 2 ^ 30) : (∃ j, a ≤ j ∧ j ≤ b ∧ p = nI j ∧ fX6_in p.toInt64 (lN a) (lN b) = some (nI 1)) ∨ ((p < nI a ∨ nI b < p) ∧ fX6_in p.toInt64 (lN a) (lN b) = some (nI 0)) := by
  rw [← nI_l (show a < 2 ^ 31 by omega), ← nI_l (show b < 2 ^ 31 by omega)]
  rcases rg p b hb with ⟨j, h, e⟩ | h | h
  · subst e
    by_cases c : a ≤ j
    · exact Or.inl ⟨j, c, h, rfl, in_yes ⟨nI_le c (by omega), nI_le h (by omega)⟩⟩
    · exact Or.inr ⟨Or.inl (nI_lt (by omega) (by omega)), in_no (Or.inl (nI_lt (by omega) (by omega)))⟩
  · have : p < nI a := by
      rw [fa_lt, nI_toInt (by omega)] at h ⊢
      omega
    exact Or.inr ⟨Or.inl this, in_no (Or.inl this)⟩
  · exact Or.inr ⟨Or.inr h, in_no (Or.inr h)⟩
theorem in_nI {j a b : Nat} (hj : j < 2 ^ 31) (ha : a < 2 ^ 31) (hb : b < 2 ^ 31) : fX6_in (nI j).toInt64 (lN a) (lN b) = some (if a ≤ j ∧ j ≤ b then nI 1 else nI 0) := by
  rw [← nI_l ha, ← nI_l hb]
  by_cases c : a ≤ j ∧ j ≤ b
  · rw [if_pos c]
    exact in_yes ⟨nI_le c.1 hj, nI_le c.2 hb⟩
  · rw [if_neg c]
    refine in_no ?_
    by_cases d : a ≤ j
    · exact Or.inr (nI_lt (by omega) hj)
    · exact Or.inl (nI_lt (by omega) ha)
/-- Nat comparisons that the context decides (for simp, with omega) -/
theorem leT {a b : Nat} (h : a ≤ b) : (a ≤ b) = True := eq_true h
theorem leF {a b : Nat} (h : b < a) : (a ≤ b) = False := eq_false (by omega)
theorem ltT {a b : Nat} (h : a < b) : (a < b) = True := eq_true h
theorem ltF {a b : Nat} (h : b ≤ a) : (a < b) = False := eq_false (by omega)
theorem eqT {a b : Nat} (h : a = b) : (a = b) = True := eq_true h
theorem eqF {a b : Nat} (h : a ≠ b) : (a = b) = False := eq_false h
/-- bits set where p holds, below n -/
def bs (p : Nat → Bool) : Nat → Nat
  | 0 => 0
  | n + 1 => bs p n ||| (if p n then 2 ^ n else 0)
theorem bs_tb (p : Nat → Bool) (k : Nat) : ∀ n, (bs p n).testBit k = (decide (k < n) && p k)
  | 0 => by simp [bs]
  | n + 1 => by
    rw [bs, Nat.testBit_or, bs_tb p k n]
    by_cases c : p n = true
    · rw [if_pos c, Nat.testBit_two_pow]
      by_cases d : n = k
      · subst d; simp [c]
      · have : decide (k < n + 1) = decide (k < n) := by congr 1; exact propext ⟨fun _ => by omega, fun _ => by omega⟩
        simp [d, this]
    · rw [if_neg c, Nat.zero_testBit, Bool.or_false]
      by_cases d : n = k
      · subst d; simp [c]
      · have : decide (k < n + 1) = decide (k < n) := by congr 1; exact propext ⟨fun _ => by omega, fun _ => by omega⟩
        rw [this]
theorem bs_lt (p : Nat → Bool) : ∀ n, bs p n < 2 ^ n
  | 0 => Nat.one_pos
  | n + 1 => by
    rw [bs]
    refine Nat.or_lt_two_pow (Nat.lt_trans (bs_lt p n) (Nat.pow_lt_pow_right (by omega) (by omega))) ?_
    by_cases c : p n = true
    · rw [if_pos c]; exact Nat.pow_lt_pow_right (by omega) (by omega)
    · rw [if_neg c]; exact Nat.two_pow_pos _
theorem bs_cong {p q : Nat → Bool} : ∀ {n : Nat}, (∀ k, k < n → p k = q k) → bs p n = bs q n
  | 0, _ => rfl
  | n + 1, h => by rw [bs, bs, bs_cong (fun k hk => h k (by omega)), h n (by omega)]
theorem bs_or {p : Nat → Bool} {i : Nat} (h : i < 31) : nI (bs p i ||| (if p i then 1 else 0) * 2 ^ i) = nI (bs p (i + 1)) := by
  rw [bs]
  by_cases c : p i = true
  · rw [if_pos c, if_pos c, Nat.one_mul]
  · rw [if_neg c, if_neg c, Nat.zero_mul]
theorem ct_sm (p : Nat → Bool) : ∀ n, ct p n = fb_sm (fun i => if p i then 1 else 0) n
  | 0 => rfl
  | n + 1 => by rw [ct, ct_sm p n]; rfl
theorem ct_cong {p q : Nat → Bool} : ∀ {n : Nat}, (∀ k, k < n → p k = q k) → ct p n = ct q n
  | 0, _ => rfl
  | n + 1, h => by rw [ct, ct, ct_cong (fun k hk => h k (by omega)), h n (by omega)]
theorem ct_le (p : Nat → Bool) : ∀ n, ct p n ≤ n
  | 0 => Nat.le_refl _
  | n + 1 => by
    have := ct_le p n
    rw [ct]
    split <;> omega
theorem ct_split (p : Nat → Bool) (m : Nat) : ∀ n, ct p (m + n) = ct p m + ct (fun k => p (m + k)) n
  | 0 => rfl
  | n + 1 => by
    rw [← Nat.add_assoc, ct, ct_split p m n, ct, Nat.add_assoc]
theorem so_ite {α : Type} (c : Prop) [Decidable c] (x y : α) : (if c then some x else some y) = some (if c then x else y) := by
  by_cases h : c
  · rw [if_pos h, if_pos h]
  · rw [if_neg h, if_neg h]
