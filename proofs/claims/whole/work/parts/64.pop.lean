-- Long.bitCount, byte by byte
theorem and_by {a m : Nat} (A M : Nat) (ha : a < 256) (hm : m < 256) : (a + 256 * A) &&& (m + 256 * M) = (a &&& m) + 256 * (A &&& M) := by
  have h1 : ∀ x X : Nat, x < 256 → x + 256 * X = 2 ^ 8 * X + x := fun x X _ => by omega
  have h2 : a &&& m < 256 := Nat.lt_of_le_of_lt Nat.and_le_left ha
  rw [h1 a A ha, h1 m M hm, h1 _ _ h2]
  apply Nat.eq_of_testBit_eq
  intro i
  rw [Nat.testBit_and, Nat.testBit_two_pow_mul_add A ha, Nat.testBit_two_pow_mul_add M hm, Nat.testBit_two_pow_mul_add _ (show a &&& m < 2 ^ 8 from h2)]
  by_cases c : i < 8
  · rw [if_pos c, if_pos c, if_pos c, Nat.testBit_and]
  · rw [if_neg c, if_neg c, if_neg c, Nat.testBit_and]
/-- a number of eight bytes -/
def b8 (a b c d e f g h : Nat) : Nat := a + 256 * (b + 256 * (c + 256 * (d + 256 * (e + 256 * (f + 256 * (g + 256 * h))))))
theorem b8_and {a b c d e f g h : Nat} (m : Nat) (hm : m < 256) (h1 : a < 256) (h2 : b < 256) (h3 : c < 256) (h4 : d < 256) (h5 : e < 256) (h6 : f < 256) (h7 : g < 256) : b8 a b c d e f g h &&& b8 m m m m m m m m = b8 (a &&& m) (b &&& m) (c &&& m) (d &&& m) (e &&& m) (f &&& m) (g &&& m) (h &&& m) := by
  unfold b8
  rw [and_by _ _ h1 hm, and_by _ _ h2 hm, and_by _ _ h3 hm, and_by _ _ h4 hm, and_by _ _ h5 hm, and_by _ _ h6 hm, and_by _ _ h7 hm]
def q1 (b : Nat) : Nat := b - (b / 2 &&& 85)
def q2 (b : Nat) : Nat := (q1 b &&& 51) + (q1 b / 4 &&& 51)
def q3 (b : Nat) : Nat := (q2 b + q2 b / 16) &&& 15
theorem q1_t : ∀ b, b < 256 → (b / 2 &&& 85) ≤ b ∧ q1 b < 256 ∧ ∀ x, x < 2 → (b / 2 + 128 * x) &&& 85 = b / 2 &&& 85 := by decide +kernel
theorem q2_t : ∀ b, b < 256 → q2 b < 69 ∧ q2 b % 16 < 5 ∧ ∀ x, x < 4 → (q1 b / 4 + 64 * x) &&& 51 = q1 b / 4 &&& 51 := by decide +kernel
theorem q3_t : ∀ b, b < 256 → q3 b ≤ 8 ∧ q3 b = ct (fun k => b.testBit k) 8 ∧ ∀ x, x < 16 → (q2 b + q2 b / 16 + 16 * x) &&& 15 = q3 b := by decide +kernel
theorem lN_add2 (a b : Nat) : lN a + lN b = lN (a + b) := Int64.toBitVec_inj.1 (by show BitVec.ofNat 64 a + BitVec.ofNat 64 b = BitVec.ofNat 64 (a + b); rw [BitVec.ofNat_add])
theorem lN_sub2 {a b : Nat} (h : b ≤ a) : lN a - lN b = lN (a - b) := by
  have e : lN (a - b) + lN b = lN a := by rw [lN_add2, Nat.sub_add_cancel h]
  rw [← e, Int64.add_sub_cancel]
theorem b8_q1 {w0 w1 w2 w3 w4 w5 w6 w7 : Nat} (h0 : w0 < 256) (h1 : w1 < 256) (h2 : w2 < 256) (h3 : w3 < 256) (h4 : w4 < 256) (h5 : w5 < 256) (h6 : w6 < 256) (h7 : w7 < 256) : b8 (w0) (w1) (w2) (w3) (w4) (w5) (w6) (w7) - (b8 (w0) (w1) (w2) (w3) (w4) (w5) (w6) (w7) / 2 &&& b8 85 85 85 85 85 85 85 85) = b8 (q1 w0) (q1 w1) (q1 w2) (q1 w3) (q1 w4) (q1 w5) (q1 w6) (q1 w7) ∧ (b8 (w0) (w1) (w2) (w3) (w4) (w5) (w6) (w7) / 2 &&& b8 85 85 85 85 85 85 85 85) ≤ b8 (w0) (w1) (w2) (w3) (w4) (w5) (w6) (w7) := by
  have e : b8 (w0) (w1) (w2) (w3) (w4) (w5) (w6) (w7) / 2 = b8 (w0 / 2 + 128 * (w1 % 2)) (w1 / 2 + 128 * (w2 % 2)) (w2 / 2 + 128 * (w3 % 2)) (w3 / 2 + 128 * (w4 % 2)) (w4 / 2 + 128 * (w5 % 2)) (w5 / 2 + 128 * (w6 % 2)) (w6 / 2 + 128 * (w7 % 2)) (w7 / 2) := by unfold b8; omega
  rw [e, b8_and 85 (by omega) (by omega) (by omega) (by omega) (by omega) (by omega) (by omega) (by omega)]
  rw [(q1_t w0 h0).2.2 (w1 % 2) (by omega)]
  rw [(q1_t w1 h1).2.2 (w2 % 2) (by omega)]
  rw [(q1_t w2 h2).2.2 (w3 % 2) (by omega)]
  rw [(q1_t w3 h3).2.2 (w4 % 2) (by omega)]
  rw [(q1_t w4 h4).2.2 (w5 % 2) (by omega)]
  rw [(q1_t w5 h5).2.2 (w6 % 2) (by omega)]
  rw [(q1_t w6 h6).2.2 (w7 % 2) (by omega)]
  have l0 := (q1_t w0 h0).1
  have l1 := (q1_t w1 h1).1
  have l2 := (q1_t w2 h2).1
  have l3 := (q1_t w3 h3).1
  have l4 := (q1_t w4 h4).1
  have l5 := (q1_t w5 h5).1
  have l6 := (q1_t w6 h6).1
  have l7 := (q1_t w7 h7).1
  unfold b8 q1
  omega
theorem b8_q2 {w0 w1 w2 w3 w4 w5 w6 w7 : Nat} (h0 : w0 < 256) (h1 : w1 < 256) (h2 : w2 < 256) (h3 : w3 < 256) (h4 : w4 < 256) (h5 : w5 < 256) (h6 : w6 < 256) (h7 : w7 < 256) : (b8 (q1 w0) (q1 w1) (q1 w2) (q1 w3) (q1 w4) (q1 w5) (q1 w6) (q1 w7) &&& b8 51 51 51 51 51 51 51 51) + (b8 (q1 w0) (q1 w1) (q1 w2) (q1 w3) (q1 w4) (q1 w5) (q1 w6) (q1 w7) / 4 &&& b8 51 51 51 51 51 51 51 51) = b8 (q2 w0) (q2 w1) (q2 w2) (q2 w3) (q2 w4) (q2 w5) (q2 w6) (q2 w7) := by
  have l0 := (q1_t w0 h0).2.1
  have l1 := (q1_t w1 h1).2.1
  have l2 := (q1_t w2 h2).2.1
  have l3 := (q1_t w3 h3).2.1
  have l4 := (q1_t w4 h4).2.1
  have l5 := (q1_t w5 h5).2.1
  have l6 := (q1_t w6 h6).2.1
  have l7 := (q1_t w7 h7).2.1
  have e : b8 (q1 w0) (q1 w1) (q1 w2) (q1 w3) (q1 w4) (q1 w5) (q1 w6) (q1 w7) / 4 = b8 (q1 w0 / 4 + 64 * (q1 w1 % 4)) (q1 w1 / 4 + 64 * (q1 w2 % 4)) (q1 w2 / 4 + 64 * (q1 w3 % 4)) (q1 w3 / 4 + 64 * (q1 w4 % 4)) (q1 w4 / 4 + 64 * (q1 w5 % 4)) (q1 w5 / 4 + 64 * (q1 w6 % 4)) (q1 w6 / 4 + 64 * (q1 w7 % 4)) (q1 w7 / 4) := by unfold b8; omega
  rw [e, b8_and 51 (by omega) (by omega) (by omega) (by omega) (by omega) (by omega) (by omega) (by omega), b8_and 51 (by omega) (by omega) (by omega) (by omega) (by omega) (by omega) (by omega) (by omega)]
  rw [(q2_t w0 h0).2.2 (q1 w1 % 4) (by omega)]
  rw [(q2_t w1 h1).2.2 (q1 w2 % 4) (by omega)]
  rw [(q2_t w2 h2).2.2 (q1 w3 % 4) (by omega)]
  rw [(q2_t w3 h3).2.2 (q1 w4 % 4) (by omega)]
  rw [(q2_t w4 h4).2.2 (q1 w5 % 4) (by omega)]
  rw [(q2_t w5 h5).2.2 (q1 w6 % 4) (by omega)]
  rw [(q2_t w6 h6).2.2 (q1 w7 % 4) (by omega)]
  unfold b8 q2
  omega
theorem b8_q3 {w0 w1 w2 w3 w4 w5 w6 w7 : Nat} (h0 : w0 < 256) (h1 : w1 < 256) (h2 : w2 < 256) (h3 : w3 < 256) (h4 : w4 < 256) (h5 : w5 < 256) (h6 : w6 < 256) (h7 : w7 < 256) : (b8 (q2 w0) (q2 w1) (q2 w2) (q2 w3) (q2 w4) (q2 w5) (q2 w6) (q2 w7) + b8 (q2 w0) (q2 w1) (q2 w2) (q2 w3) (q2 w4) (q2 w5) (q2 w6) (q2 w7) / 16) &&& b8 15 15 15 15 15 15 15 15 = b8 (q3 w0) (q3 w1) (q3 w2) (q3 w3) (q3 w4) (q3 w5) (q3 w6) (q3 w7) := by
  have l0 := (q2_t w0 h0).1
  have m0 := (q2_t w0 h0).2.1
  have l1 := (q2_t w1 h1).1
  have m1 := (q2_t w1 h1).2.1
  have l2 := (q2_t w2 h2).1
  have m2 := (q2_t w2 h2).2.1
  have l3 := (q2_t w3 h3).1
  have m3 := (q2_t w3 h3).2.1
  have l4 := (q2_t w4 h4).1
  have m4 := (q2_t w4 h4).2.1
  have l5 := (q2_t w5 h5).1
  have m5 := (q2_t w5 h5).2.1
  have l6 := (q2_t w6 h6).1
  have m6 := (q2_t w6 h6).2.1
  have l7 := (q2_t w7 h7).1
  have m7 := (q2_t w7 h7).2.1
  have e : b8 (q2 w0) (q2 w1) (q2 w2) (q2 w3) (q2 w4) (q2 w5) (q2 w6) (q2 w7) + b8 (q2 w0) (q2 w1) (q2 w2) (q2 w3) (q2 w4) (q2 w5) (q2 w6) (q2 w7) / 16 = b8 (q2 w0 + q2 w0 / 16 + 16 * (q2 w1 % 16)) (q2 w1 + q2 w1 / 16 + 16 * (q2 w2 % 16)) (q2 w2 + q2 w2 / 16 + 16 * (q2 w3 % 16)) (q2 w3 + q2 w3 / 16 + 16 * (q2 w4 % 16)) (q2 w4 + q2 w4 / 16 + 16 * (q2 w5 % 16)) (q2 w5 + q2 w5 / 16 + 16 * (q2 w6 % 16)) (q2 w6 + q2 w6 / 16 + 16 * (q2 w7 % 16)) (q2 w7 + q2 w7 / 16) := by unfold b8; omega
  rw [e, b8_and 15 (by omega) (by omega) (by omega) (by omega) (by omega) (by omega) (by omega) (by omega)]
  rw [(q3_t w0 h0).2.2 (q2 w1 % 16) (by omega)]
  rw [(q3_t w1 h1).2.2 (q2 w2 % 16) (by omega)]
  rw [(q3_t w2 h2).2.2 (q2 w3 % 16) (by omega)]
  rw [(q3_t w3 h3).2.2 (q2 w4 % 16) (by omega)]
  rw [(q3_t w4 h4).2.2 (q2 w5 % 16) (by omega)]
  rw [(q3_t w5 h5).2.2 (q2 w6 % 16) (by omega)]
  rw [(q3_t w6 h6).2.2 (q2 w7 % 16) (by omega)]
  rfl
theorem b8_of {W : Nat} (h : W < 2 ^ 64) : W = b8 (W % 256) (W / 256 % 256) (W / 65536 % 256) (W / 16777216 % 256) (W / 4294967296 % 256) (W / 1099511627776 % 256) (W / 281474976710656 % 256) (W / 72057594037927936 % 256) := by
  unfold b8
  omega
theorem b8_lt {w0 w1 w2 w3 w4 w5 w6 w7 : Nat} (h0 : w0 < 256) (h1 : w1 < 256) (h2 : w2 < 256) (h3 : w3 < 256) (h4 : w4 < 256) (h5 : w5 < 256) (h6 : w6 < 256) (h7 : w7 < 256) : b8 (w0) (w1) (w2) (w3) (w4) (w5) (w6) (w7) < 2 ^ 64 := by
  unfold b8
  omega
theorem b8_sum {w0 w1 w2 w3 w4 w5 w6 w7 : Nat} (h0 : w0 ≤ 8) (h1 : w1 ≤ 8) (h2 : w2 ≤ 8) (h3 : w3 ≤ 8) (h4 : w4 ≤ 8) (h5 : w5 ≤ 8) (h6 : w6 ≤ 8) (h7 : w7 ≤ 8) (X : Nat) (hX : X = b8 (w0) (w1) (w2) (w3) (w4) (w5) (w6) (w7)) : (X + X / 256 + (X + X / 256) / 65536 + (X + X / 256 + (X + X / 256) / 65536) / 4294967296) % 128 = w0 + w1 + w2 + w3 + w4 + w5 + w6 + w7 := by
  unfold b8 at hX
  have e1 : X / 256 = w1 + 256 * (w2 + 256 * (w3 + 256 * (w4 + 256 * (w5 + 256 * (w6 + 256 * (w7)))))) := by omega
  have e2 : X + X / 256 = (w0 + w1) + 256 * ((w1 + w2) + 256 * ((w2 + w3) + 256 * ((w3 + w4) + 256 * ((w4 + w5) + 256 * ((w5 + w6) + 256 * ((w6 + w7) + 256 * (w7))))))) := by omega
  generalize X + X / 256 = Y at *
  clear e1 hX
  have e3 : Y / 65536 = (w2 + w3) + 256 * ((w3 + w4) + 256 * ((w4 + w5) + 256 * ((w5 + w6) + 256 * ((w6 + w7) + 256 * (w7))))) := by omega
  have e4 : Y + Y / 65536 = ((w0 + w1) + (w2 + w3)) + 256 * (((w1 + w2) + (w3 + w4)) + 256 * (((w2 + w3) + (w4 + w5)) + 256 * (((w3 + w4) + (w5 + w6)) + 256 * (((w4 + w5) + (w6 + w7)) + 256 * (((w5 + w6) + w7) + 256 * ((w6 + w7) + 256 * (w7))))))) := by omega
  generalize Y + Y / 65536 = Z at *
  clear e3 e2
  have e5 : Z / 4294967296 = ((w4 + w5) + (w6 + w7)) + 256 * (((w5 + w6) + w7) + 256 * ((w6 + w7) + 256 * (w7))) := by omega
  omega
theorem pcnt_by (W : Nat) : pcnt W = ct (fun k => (W % 256).testBit k) 8 + ct (fun k => (W / 256 % 256).testBit k) 8 + ct (fun k => (W / 65536 % 256).testBit k) 8 + ct (fun k => (W / 16777216 % 256).testBit k) 8 + ct (fun k => (W / 4294967296 % 256).testBit k) 8 + ct (fun k => (W / 1099511627776 % 256).testBit k) 8 + ct (fun k => (W / 281474976710656 % 256).testBit k) 8 + ct (fun k => (W / 72057594037927936 % 256).testBit k) 8 := by
  have e : ∀ x, ct (fun k => (W / 2 ^ (8 * x) % 256).testBit k) 8 = ct (fun k => W.testBit (8 * x + k)) 8 := fun x => ct_cong fun k hk => by
    show (W / 2 ^ (8 * x) % 2 ^ 8).testBit k = _
    rw [Nat.testBit_mod_two_pow, Nat.testBit_div_two_pow, Nat.add_comm]
    simp [hk]
  have e0 := e 0
  have e1 := e 1
  have e2 := e 2
  have e3 := e 3
  have e4 := e 4
  have e5 := e 5
  have e6 := e 6
  have e7 := e 7
  simp only [Nat.reduceMul, Nat.reducePow, Nat.div_one, Nat.zero_add] at e0 e1 e2 e3 e4 e5 e6 e7
  rw [e0, e1, e2, e3, e4, e5, e6, e7]
  unfold pcnt
  rw [show (64 : Nat) = 8 + 8 + 8 + 8 + 8 + 8 + 8 + 8 from rfl, ct_split _ (8 + 8 + 8 + 8 + 8 + 8 + 8) 8, ct_split _ (8 + 8 + 8 + 8 + 8 + 8) 8, ct_split _ (8 + 8 + 8 + 8 + 8) 8, ct_split _ (8 + 8 + 8 + 8) 8, ct_split _ (8 + 8 + 8) 8, ct_split _ (8 + 8) 8, ct_split _ 8 8]
theorem c_pop {W : Nat} (h : W < 2 ^ 64) : fJ13_bitCount_95d88 (lN W) = some (nI (pcnt W)) := by
  have a0 : W % 256 < 256 := Nat.mod_lt _ (by omega)
  have a1 : W / 256 % 256 < 256 := Nat.mod_lt _ (by omega)
  have a2 : W / 65536 % 256 < 256 := Nat.mod_lt _ (by omega)
  have a3 : W / 16777216 % 256 < 256 := Nat.mod_lt _ (by omega)
  have a4 : W / 4294967296 % 256 < 256 := Nat.mod_lt _ (by omega)
  have a5 : W / 1099511627776 % 256 < 256 := Nat.mod_lt _ (by omega)
  have a6 : W / 281474976710656 % 256 < 256 := Nat.mod_lt _ (by omega)
  have a7 : W / 72057594037927936 % 256 < 256 := Nat.mod_lt _ (by omega)
  rw [pcnt_by, ← (q3_t _ a0).2.1, ← (q3_t _ a1).2.1, ← (q3_t _ a2).2.1, ← (q3_t _ a3).2.1, ← (q3_t _ a4).2.1, ← (q3_t _ a5).2.1, ← (q3_t _ a6).2.1, ← (q3_t _ a7).2.1]
  have hb := b8_of h
  generalize W % 256 = w0 at *
  generalize W / 256 % 256 = w1 at *
  generalize W / 65536 % 256 = w2 at *
  generalize W / 16777216 % 256 = w3 at *
  generalize W / 4294967296 % 256 = w4 at *
  generalize W / 1099511627776 % 256 = w5 at *
  generalize W / 281474976710656 % 256 = w6 at *
  generalize W / 72057594037927936 % 256 = w7 at *
  have k1 := b8_q1 a0 a1 a2 a3 a4 a5 a6 a7
  have k2 := b8_q2 a0 a1 a2 a3 a4 a5 a6 a7
  have k3 := b8_q3 a0 a1 a2 a3 a4 a5 a6 a7
  have r1 : b8 (q1 w0) (q1 w1) (q1 w2) (q1 w3) (q1 w4) (q1 w5) (q1 w6) (q1 w7) < 2 ^ 64 := b8_lt (q1_t _ a0).2.1 (q1_t _ a1).2.1 (q1_t _ a2).2.1 (q1_t _ a3).2.1 (q1_t _ a4).2.1 (q1_t _ a5).2.1 (q1_t _ a6).2.1 (q1_t _ a7).2.1
  have lt2 : ∀ w, w < 256 → q2 w < 256 := fun w hw => by have := (q2_t w hw).1; omega
  have lt3 : ∀ w, w < 256 → q3 w < 256 := fun w hw => by have := (q3_t w hw).1; omega
  have r2 : b8 (q2 w0) (q2 w1) (q2 w2) (q2 w3) (q2 w4) (q2 w5) (q2 w6) (q2 w7) < 2 ^ 64 := b8_lt (lt2 _ a0) (lt2 _ a1) (lt2 _ a2) (lt2 _ a3) (lt2 _ a4) (lt2 _ a5) (lt2 _ a6) (lt2 _ a7)
  have r3 : b8 (q3 w0) (q3 w1) (q3 w2) (q3 w3) (q3 w4) (q3 w5) (q3 w6) (q3 w7) < 2 ^ 60 := by
    have := (q3_t _ a0).1
    have := (q3_t _ a1).1
    have := (q3_t _ a2).1
    have := (q3_t _ a3).1
    have := (q3_t _ a4).1
    have := (q3_t _ a5).1
    have := (q3_t _ a6).1
    have := (q3_t _ a7).1
    unfold b8
    omega
  have m1 : (6148914691236517205 : Int64) = lN (b8 85 85 85 85 85 85 85 85) := by decide +kernel
  have m2 : (3689348814741910323 : Int64) = lN (b8 51 51 51 51 51 51 51 51) := by decide +kernel
  have m3 : (1085102592571150095 : Int64) = lN (b8 15 15 15 15 15 15 15 15) := by decide +kernel
  have k4 := b8_sum (q3_t _ a0).1 (q3_t _ a1).1 (q3_t _ a2).1 (q3_t _ a3).1 (q3_t _ a4).1 (q3_t _ a5).1 (q3_t _ a6).1 (q3_t _ a7).1 _ rfl
  rw [← hb] at k1
  have e1 : ∀ {n : Nat}, n < 2 ^ 64 → ((lN n).toUInt64 >>> ((1 : Int32).toInt64.toUInt64 &&& Int64.toUInt64 63)).toInt64 = lN (n / 2) := fun hn => wb_shr (k := 1) hn (by omega)
  have e2 : ∀ {n : Nat}, n < 2 ^ 64 → ((lN n).toUInt64 >>> ((2 : Int32).toInt64.toUInt64 &&& Int64.toUInt64 63)).toInt64 = lN (n / 4) := fun hn => wb_shr (k := 2) hn (by omega)
  have e4 : ∀ {n : Nat}, n < 2 ^ 64 → ((lN n).toUInt64 >>> ((4 : Int32).toInt64.toUInt64 &&& Int64.toUInt64 63)).toInt64 = lN (n / 16) := fun hn => wb_shr (k := 4) hn (by omega)
  have e8 : ∀ {n : Nat}, n < 2 ^ 64 → ((lN n).toUInt64 >>> ((8 : Int32).toInt64.toUInt64 &&& Int64.toUInt64 63)).toInt64 = lN (n / 256) := fun hn => wb_shr (k := 8) hn (by omega)
  have e16 : ∀ {n : Nat}, n < 2 ^ 64 → ((lN n).toUInt64 >>> ((16 : Int32).toInt64.toUInt64 &&& Int64.toUInt64 63)).toInt64 = lN (n / 65536) := fun hn => wb_shr (k := 16) hn (by omega)
  have e32 : ∀ {n : Nat}, n < 2 ^ 64 → ((lN n).toUInt64 >>> ((32 : Int32).toInt64.toUInt64 &&& Int64.toUInt64 63)).toInt64 = lN (n / 4294967296) := fun hn => wb_shr (k := 32) hn (by omega)
  simp only [fJ13_bitCount_95d88, nm]
  rw [m1, m2, m3]
  rw [e1 h, fb_andL, lN_sub2 k1.2, k1.1]
  generalize b8 (q1 w0) (q1 w1) (q1 w2) (q1 w3) (q1 w4) (q1 w5) (q1 w6) (q1 w7) = X1 at *
  rw [e2 r1, fb_andL, fb_andL, lN_add2, k2]
  generalize b8 (q2 w0) (q2 w1) (q2 w2) (q2 w3) (q2 w4) (q2 w5) (q2 w6) (q2 w7) = X2 at *
  rw [e4 r2, lN_add2, fb_andL, k3]
  generalize b8 (q3 w0) (q3 w1) (q3 w2) (q3 w3) (q3 w4) (q3 w5) (q3 w6) (q3 w7) = X3 at *
  rw [e8 (by omega), lN_add2, e16 (by omega), lN_add2, e32 (by omega), lN_add2, lN_i]
  rw [show (127 : Int32) = nI (2 ^ 7 - 1) from rfl, fa_mask, ← k4]
