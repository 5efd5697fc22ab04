-- walk, walks: what is closed in an HOUR; one step of all walks
def lnd (K : KT) (h : Nat) : Nat → Nat
  | 0 => 0
  | n + 1 => lnd K h n ||| (if (dayK K).2.2.1 n = h then 2 ^ (dayK K).2.1 n else 0)
def anL (K : KT) (h p : Nat) : Nat → Bool
  | 0 => false
  | n + 1 => anL K h p n || ((dayK K).2.1 n == p && (dayK K).2.2.1 n == h)
theorem lnd_tb (K : KT) (h p : Nat) : ∀ n, (lnd K h n).testBit p = anL K h p n
  | 0 => by simp [lnd, anL]
  | n + 1 => by
    rw [lnd, anL, Nat.testBit_or, lnd_tb K h p n]
    by_cases c : (dayK K).2.2.1 n = h
    · rw [if_pos c, Nat.testBit_two_pow, c]
      by_cases d : (dayK K).2.1 n = p
      · simp [d]
      · simp [d]
    · rw [if_neg c, Nat.zero_testBit]
      simp [c]
theorem lnd_lt {K : KT} {h : Nat} (hp : ∀ s, s < kN K → (dayK K).2.1 s < 64) : ∀ n, n ≤ kN K → lnd K h n < 2 ^ 64
  | 0, _ => by simp [lnd]
  | n + 1, hn => by
    rw [lnd]
    refine Nat.or_lt_two_pow (lnd_lt hp n (by omega)) ?_
    split
    · exact Nat.pow_lt_pow_right (by omega) (hp n (by omega))
    · exact Nat.two_pow_pos _
def clsd (K : KT) (h : Nat) : Nat := kW K ||| lnd K h (kN K)
theorem c_landOf {K : KT} {d : DT} {h : Nat} (hd : RDy K d) (hN : kN K ≤ 5) (hh : h ≤ 9) : fX1_landingsOf (nI h) d = some (lN (lnd K h (kN K))) := by
  obtain ⟨h1, h2, h3, h4⟩ := hd
  obtain ⟨F, hF⟩ : ∃ F, F = 4096 := ⟨_, rfl⟩
  rw [fX1_landingsOf, ← hF]
  refine solo (fun n (t : Int32 × Int64) => fX1_landingsOf_L5 d (nI h) (fun v1 v2 => some v2) n t.1 t.2) (fun i t => t = (nI i, lN (lnd K h i))) (fun x => x = some (lN (lnd K h (kN K)))) (kN K) ?_ ?_ (kN K) 0 F (nI 0, lN 0) (by omega) (by omega) rfl
  · rintro i t n hi rfl ih
    have := ih _ rfl
    rw [lnd] at this
    obtain ⟨a1, a2, a3, a4, _⟩ := h4 i hi
    show fX1_landingsOf_L5 d (nI h) _ (n + 1) (nI i) (lN (lnd K h i)) = _
    rw [fX1_landingsOf_L5]
    by_cases c : (dayK K).2.2.1 i = h
    · rw [if_pos c] at this
      simp (disch := omega) only [nm_q, bd1_some, bd2_some, bd3_some, bd4_some, bd5_some, bd6_some, bd7_some, bd8_some, bd9_some, bd10_some, bd11_some, bd1_ite, ↓reduceIte, gd_nI, gb_nI, gb_ite, li, liL, nI_add, nI_1, pk_sub, pk_mul, pk_div, nI_clamp, nI_eq, nI_leI, nI_ltI, nI_eqn, nI_neq, nI_nn, nI_len, nI_ltn, ngI_le, ngI_lt, nng, sm10, sm8, shr_n, shl_n, and_1, fa_or, leT, leF, ltT, ltF, eqT, eqF, h3, a1, a3, c_set a2]
      exact this
    · rw [if_neg c, or_0] at this
      simp (disch := omega) only [nm_q, bd1_some, bd2_some, bd3_some, bd4_some, bd5_some, bd6_some, bd7_some, bd8_some, bd9_some, bd10_some, bd11_some, bd1_ite, ↓reduceIte, gd_nI, gb_nI, gb_ite, li, liL, nI_add, nI_1, pk_sub, pk_mul, pk_div, nI_clamp, nI_eq, nI_leI, nI_ltI, nI_eqn, nI_neq, nI_nn, nI_len, nI_ltn, ngI_le, ngI_lt, nng, sm10, sm8, shr_n, shl_n, and_1, fa_or, leT, leF, ltT, ltF, eqT, eqF, h3, a3]
      exact this
  · rintro t n rfl
    show fX1_landingsOf_L5 d (nI h) _ (n + 1) (nI (kN K)) (lN (lnd K h (kN K))) = _
    rw [fX1_landingsOf_L5]
    simp (disch := omega) only [nm_q, bd1_some, bd2_some, bd3_some, bd4_some, bd5_some, bd6_some, bd7_some, bd8_some, bd9_some, bd10_some, bd11_some, bd1_ite, ↓reduceIte, gd_nI, gb_nI, gb_ite, li, liL, nI_add, nI_1, pk_sub, pk_mul, pk_div, nI_clamp, nI_eq, nI_leI, nI_ltI, nI_eqn, nI_neq, nI_nn, nI_len, nI_ltn, ngI_le, ngI_lt, nng, sm10, sm8, shr_n, shl_n, and_1, fa_or, leT, leF, ltT, ltF, eqT, eqF, h3]
theorem c_closed {K : KT} {nw : CT} {d : DT} {h : Nat} (v : VT) (hd : RDy K d) (hN : kN K ≤ 5) (hc : RCc K nw) (hh : h ≤ 9) : fX5_closedIn (nI h) v nw d = some (lN (clsd K h)) := by
  rw [fX5_closedIn, c_landOf hd hN hh, bd1_some, nm_q, (lN_of hc.1).1, fb_orL]
  rfl
def anN (a b : Nat) : Nat := a &&& (2 ^ 64 - (b + 1))
theorem anN_tb {a b i : Nat} (hb : b < 2 ^ 64) : (anN a b).testBit i = (a.testBit i && (decide (i < 64) && !b.testBit i)) := by
  unfold anN
  rw [Nat.testBit_and, Nat.testBit_two_pow_sub_succ hb]
theorem anN_lt (a b : Nat) : anN a b < 2 ^ 64 := Nat.lt_of_le_of_lt Nat.and_le_right (by omega)
theorem c_anN {a b : Nat} (hb : b < 2 ^ 64) : lN a &&& (lN b ^^^ -1) = lN (anN a b) := by
  rw [show (-1 : Int64) = lN (2 ^ 64 - 1) by decide, fb_xorL, xor_full hb, fb_andL]
  rfl
theorem clsd_lt {K : KT} (h : Nat) (hK : WFk K) (hp : ∀ s, s < kN K → (dayK K).2.1 s < 64) : clsd K h < 2 ^ 64 := Nat.or_lt_two_pow (WF_W hK) (lnd_lt hp _ (Nat.le_refl _))
/-- all places of W and those one on from them -/
def sprd (W : Nat) : Nat := W ||| (W &&& 9187201950435737471) * 2 ||| (W &&& 18374403900871474942) / 2 ||| W * 256 ||| W / 256
theorem c_spread {W : Nat} (hW : W < 2 ^ 64) : fX3_spread (lN W) = some (lN (sprd W)) := by
  have m1 : (9187201950435737471 : Int64) = lN 9187201950435737471 := rfl
  have m2 : (-72340172838076674 : Int64) = lN 18374403900871474942 := by decide
  have e1 : ∀ n, lN n <<< ((1 : Int32).toInt64 &&& 63) = lN (n * 2) := fun n => wb_shl n (k := 1) (by omega)
  have e2 : ∀ n, lN n <<< ((8 : Int32).toInt64 &&& 63) = lN (n * 256) := fun n => wb_shl n (k := 8) (by omega)
  have e3 : ∀ {n : Nat}, n < 2 ^ 64 → ((lN n).toUInt64 >>> ((1 : Int32).toInt64.toUInt64 &&& Int64.toUInt64 63)).toInt64 = lN (n / 2) := fun hn => wb_shr (k := 1) hn (by omega)
  have e4 : ∀ {n : Nat}, n < 2 ^ 64 → ((lN n).toUInt64 >>> ((8 : Int32).toInt64.toUInt64 &&& Int64.toUInt64 63)).toInt64 = lN (n / 256) := fun hn => wb_shr (k := 8) hn (by omega)
  have l1 : W &&& 18374403900871474942 < 2 ^ 64 := Nat.lt_of_le_of_lt Nat.and_le_left hW
  simp only [fX3_spread, nm_q]
  rw [m1, m2, fb_andL, fb_andL, e1, e2, e3 l1, e4 hW, fb_orL, fb_orL, fb_orL, fb_orL]
  rfl
/-- a place of W, or one on from one by a way below n -/
def nbB (W p : Nat) : Nat → Bool
  | 0 => W.testBit p
  | w + 1 => nbB W p w || (match onP p w with
    | none => false
    | some q => W.testBit q)
theorem ne_tb : ∀ q, q < 64 → (9187201950435737471 : Nat).testBit q = decide (q % 8 < 7) ∧ (18374403900871474942 : Nat).testBit q = decide (0 < q % 8) := by decide +kernel
theorem sprd_tb {W p : Nat} (hW : W < 2 ^ 64) (hp : p < 64) : (sprd W).testBit p = nbB W p 4 := by
  have big : ∀ i, 64 ≤ i → W.testBit i = false := fun i hi => Nat.testBit_lt_two_pow (Nat.lt_of_lt_of_le hW (Nat.pow_le_pow_right (by omega) hi))
  have m2 : ∀ a i : Nat, (a * 2).testBit i = (decide (1 ≤ i) && a.testBit (i - 1)) := fun a i => by
    have := Nat.testBit_mul_two_pow a i 1
    rw [Nat.pow_one] at this
    rw [this]
  have m256 : ∀ a i : Nat, (a * 256).testBit i = (decide (8 ≤ i) && a.testBit (i - 8)) := fun a i => by
    have := Nat.testBit_mul_two_pow a i 8
    exact this
  have d2 : ∀ a i : Nat, (a / 2).testBit i = a.testBit (i + 1) := fun a i => by
    have := Nat.testBit_div_two_pow (n := 1) a i
    rw [Nat.pow_one] at this
    exact this
  have d256 : ∀ a i : Nat, (a / 256).testBit i = a.testBit (i + 8) := fun a i => Nat.testBit_div_two_pow (n := 8) a i
  unfold sprd
  rw [Nat.testBit_or, Nat.testBit_or, Nat.testBit_or, Nat.testBit_or, m2, d2, m256, d256, Nat.testBit_and, Nat.testBit_and]
  unfold nbB nbB nbB nbB nbB onP
  simp only [if_true, if_false, Nat.reduceEqDiff, show ¬ (1 : Nat) = 0 by omega, show ¬ (2 : Nat) = 0 by omega, show ¬ (3 : Nat) = 0 by omega, show ¬ (2 : Nat) = 1 by omega, show ¬ (3 : Nat) = 1 by omega, show ¬ (3 : Nat) = 2 by omega]
  have a0 : (W.testBit (p + 1) && (18374403900871474942 : Nat).testBit (p + 1)) = (match (if p % 8 < 7 then some (p + 1) else none) with | none => false | some q => W.testBit q) := by
    by_cases c : p % 8 < 7
    · rw [if_pos c, (ne_tb (p + 1) (by omega)).2]
      have : 0 < (p + 1) % 8 := by omega
      simp [this]
    · rw [if_neg c]
      by_cases c2 : p + 1 < 64
      · rw [(ne_tb (p + 1) c2).2]
        have : ¬ 0 < (p + 1) % 8 := by omega
        simp [this]
      · rw [big _ (by omega)]; rfl
  have a2 : (decide (1 ≤ p) && (W.testBit (p - 1) && (9187201950435737471 : Nat).testBit (p - 1))) = (match (if 0 < p % 8 then some (p - 1) else none) with | none => false | some q => W.testBit q) := by
    by_cases c : 0 < p % 8
    · rw [if_pos c, (ne_tb (p - 1) (by omega)).1]
      have h1 : (p - 1) % 8 < 7 := by omega
      have h2 : 1 ≤ p := by omega
      simp [h1, h2]
    · rw [if_neg c]
      by_cases c2 : 1 ≤ p
      · rw [(ne_tb (p - 1) (by omega)).1]
        have : ¬ (p - 1) % 8 < 7 := by omega
        simp [this]
      · simp [c2]
  have a1 : W.testBit (p + 8) = (match (if p / 8 < 7 then some (p + 8) else none) with | none => false | some q => W.testBit q) := by
    by_cases c : p / 8 < 7
    · rw [if_pos c]
    · rw [if_neg c, big _ (by omega)]
  have a3 : (decide (8 ≤ p) && W.testBit (p - 8)) = (match (if 0 < p / 8 then some (p - 8) else none) with | none => false | some q => W.testBit q) := by
    by_cases c : 0 < p / 8
    · rw [if_pos c]
      have : 8 ≤ p := by omega
      simp [this]
    · rw [if_neg c]
      have : ¬ 8 ≤ p := by omega
      simp [this]
  rw [← a0, ← a1, ← a2, ← a3]
  generalize W.testBit p = b0
  generalize (W.testBit (p + 1) && (18374403900871474942 : Nat).testBit (p + 1)) = b1
  generalize W.testBit (p + 8) = b2
  generalize (decide (1 ≤ p) && (W.testBit (p - 1) && (9187201950435737471 : Nat).testBit (p - 1))) = b3
  generalize (decide (8 ≤ p) && W.testBit (p - 8)) = b4
  cases b0 <;> cases b1 <;> cases b2 <;> cases b3 <;> cases b4 <;> rfl
theorem c_goOn {K : KT} {nw : CT} {d : DT} {W h : Nat} (v : VT) (hd : RDy K d) (hK : WFk K) (hc : RCc K nw) (hW : W < 2 ^ 64) (hh : h ≤ 9) : fX5_goOn (lN W) (nI h) v nw d = some (lN (anN (sprd W) (clsd K h))) := by
  rw [fX5_goOn, c_spread hW, bd1_some, c_closed v hd (WF_N hK) hc hh, bd1_some, nm_q, c_anN (clsd_lt h hK (fun s hs => (hd.2.2.2 s hs).2.1))]
theorem c_beginW {K : KT} {nw : CT} {d : DT} {q : Nat} (v : VT) (hd : RDy K d) (hK : WFk K) (hc : RCc K nw) (hq : q < 64) : fX5_beginWalks (nI (cell q)) v nw d = some (lN (anN (2 ^ q) (clsd K 0))) := by
  rw [fX5_beginWalks, c_place hq, bd1_some, nm_q, show fX5_closedIn 0 v nw d = _ from c_closed (h := 0) v hd (WF_N hK) hc (by omega), bd1_some, nm_q, show (1 : Int64) <<< ((nI q).toInt64 &&& 63) = lN (1 * 2 ^ q) from wb_shl 1 hq, Nat.one_mul, c_anN (clsd_lt 0 hK (fun s hs => (hd.2.2.2 s hs).2.1))]
-- the reference
theorem m_free {K : KT} {st now la lh ls : AI} {p h : Nat} (hK : WFk K) (hWB : WB (kW K) st) (hm : RMy K now la lh ls) (hp : p < 64) (hh : h ≤ 9) : fX6_isFree (nI (cell p)) (nI h) st now la lh = some (if (clsd K h).testBit p then nI 0 else nI 1) := by
  have hN := WF_N hK
  obtain ⟨h1, h4⟩ := hm
  have h3 := h1.2.2.1
  obtain ⟨F, hF⟩ : ∃ F, F = 4096 := ⟨_, rfl⟩
  have e0 : (clsd K h).testBit p = ((kW K).testBit p || anL K h p (kN K)) := by unfold clsd; rw [Nat.testBit_or, lnd_tb]
  rw [fX6_isFree, m_ahead hWB hp, bd1_some, ← hF, e0]
  rw [show (if (if (kW K).testBit p = true then nI 1 else nI 0) = 0 then some 1 else some 0) = some (if ((kW K).testBit p || anL K h p 0) then nI 0 else nI 1) by cases (kW K).testBit p <;> rfl, bd1_some]
  refine solo (fun n (t : Int32 × Int32) => fX6_isFree_L17 now la lh (nI (cell p)) (nI h) (fun v6 v7 => gb v7 (some v7)) n t.1 t.2) (fun i t => t = (nI i, if ((kW K).testBit p || anL K h p i) then nI 0 else nI 1)) (fun x => x = some (if ((kW K).testBit p || anL K h p (kN K)) then nI 0 else nI 1)) (kN K) ?_ ?_ (kN K) 0 F (nI 0, _) (by omega) (by omega) rfl
  · rintro i t n hi rfl ih
    have next := ih _ rfl
    rw [anL, ← Bool.or_assoc] at next
    obtain ⟨a1, a2, a3, a4, _⟩ := h4 i hi
    show fX6_isFree_L17 now la lh (nI (cell p)) (nI h) _ (n + 1) (nI i) (if ((kW K).testBit p || anL K h p i) then nI 0 else nI 1) = _
    rw [fX6_isFree_L17]
    cases eb : ((kW K).testBit p || anL K h p i) with
    | true =>
      rw [eb] at next
      simp (disch := omega) only [nm_q, bd1_some, bd2_some, bd3_some, bd4_some, bd5_some, bd6_some, bd7_some, bd8_some, bd9_some, bd10_some, bd11_some, bd1_ite, ↓reduceIte, gd_nI, gb_nI, gb_ite, li, liL, nI_add, nI_1, pk_sub, pk_mul, pk_div, nI_clamp, nI_eq, nI_leI, nI_ltI, nI_eqn, nI_neq, nI_nn, nI_len, nI_ltn, ngI_le, ngI_lt, nng, sm10, sm8, shr_n, shl_n, and_1, fa_or, leT, leF, ltT, ltF, eqT, eqF, h3, tt_i]
      exact next
    | false =>
      rw [eb] at next
      by_cases c : (dayK K).2.1 i = p
      · by_cases d : (dayK K).2.2.1 i = h
        · simp (disch := omega) only [nm_q, bd1_some, bd2_some, bd3_some, bd4_some, bd5_some, bd6_some, bd7_some, bd8_some, bd9_some, bd10_some, bd11_some, bd1_ite, ↓reduceIte, gd_nI, gb_nI, gb_ite, li, liL, nI_add, nI_1, pk_sub, pk_mul, pk_div, nI_clamp, nI_eq, nI_leI, nI_ltI, nI_eqn, nI_neq, nI_nn, nI_len, nI_ltn, ngI_le, ngI_lt, nng, sm10, sm8, shr_n, shl_n, and_1, fa_or, leT, leF, ltT, ltF, eqT, eqF, h3, ff_i, a1, a3, ci_eq]
          simpa [c, d] using next
        · simp (disch := omega) only [nm_q, bd1_some, bd2_some, bd3_some, bd4_some, bd5_some, bd6_some, bd7_some, bd8_some, bd9_some, bd10_some, bd11_some, bd1_ite, ↓reduceIte, gd_nI, gb_nI, gb_ite, li, liL, nI_add, nI_1, pk_sub, pk_mul, pk_div, nI_clamp, nI_eq, nI_leI, nI_ltI, nI_eqn, nI_neq, nI_nn, nI_len, nI_ltn, ngI_le, ngI_lt, nng, sm10, sm8, shr_n, shl_n, and_1, fa_or, leT, leF, ltT, ltF, eqT, eqF, h3, ff_i, a1, a3, ci_eq]
          simpa [c, d] using next
      · simp (disch := omega) only [nm_q, bd1_some, bd2_some, bd3_some, bd4_some, bd5_some, bd6_some, bd7_some, bd8_some, bd9_some, bd10_some, bd11_some, bd1_ite, ↓reduceIte, gd_nI, gb_nI, gb_ite, li, liL, nI_add, nI_1, pk_sub, pk_mul, pk_div, nI_clamp, nI_eq, nI_leI, nI_ltI, nI_eqn, nI_neq, nI_nn, nI_len, nI_ltn, ngI_le, ngI_lt, nng, sm10, sm8, shr_n, shl_n, and_1, fa_or, leT, leF, ltT, ltF, eqT, eqF, h3, ff_i, a1, a3, ci_eq]
        simpa [c] using next
  · rintro t n rfl
    show fX6_isFree_L17 now la lh (nI (cell p)) (nI h) _ (n + 1) (nI (kN K)) (if ((kW K).testBit p || anL K h p (kN K)) then nI 0 else nI 1) = _
    rw [fX6_isFree_L17]
    simp (disch := omega) only [nm_q, bd1_some, bd2_some, bd3_some, bd4_some, bd5_some, bd6_some, bd7_some, bd8_some, bd9_some, bd10_some, bd11_some, bd1_ite, ↓reduceIte, gd_nI, gb_nI, gb_ite, li, liL, nI_add, nI_1, pk_sub, pk_mul, pk_div, nI_clamp, nI_eq, nI_leI, nI_ltI, nI_eqn, nI_neq, nI_nn, nI_len, nI_ltn, ngI_le, ngI_lt, nng, sm10, sm8, shr_n, shl_n, and_1, fa_or, leT, leF, ltT, ltF, eqT, eqF, h3]
    cases ((kW K).testBit p || anL K h p (kN K)) <;> rfl
