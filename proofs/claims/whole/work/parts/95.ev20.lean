-- lowest terms; luck, mean
theorem cmpz {w : Nat} (hw : w < 2 ^ 63) : (lg_cmp (lN w) (0 : Int64) = 0) = (w = 0) := by
  unfold lg_cmp
  by_cases c : w = 0
  · subst c
    exact propext ⟨fun _ => rfl, fun _ => by decide⟩
  · have c1 : lN w > (0 : Int64) := (pk_lLT (a := 0) (by omega) hw).mpr (by omega)
    rw [if_pos c1]
    exact propext ⟨fun h => absurd h (by decide), fun h => absurd h c⟩
theorem gzl_n {β : Type} {w : Nat} (k : Option β) (h0 : w ≠ 0) (hw : w < 2 ^ 63) : gzl (lN w) k = k := if_neg (fun e => h0 ((pk_lEQ hw (b := 0) (by omega)).mp e))
theorem half {b c : Nat} (hc : c ≠ 0) (h : c < b) : 2 * (b % c) < b := by
  have h1 := Nat.mod_lt b (show c > 0 by omega)
  have h2 := Nat.div_add_mod b c
  have h3 : 1 ≤ b / c := (Nat.le_div_iff_mul_le (by omega)).mpr (by omega)
  have h4 : c * 1 ≤ c * (b / c) := Nat.mul_le_mul_left c h3
  omega
theorem c_low (C : Int32 → Int64 → Int64 → Option Int64) : ∀ k i n a b, a < 2 ^ 62 → b < 2 ^ 62 → b < 2 ^ k → i + 2 * k < 100 → 2 * k < n → ∃ j, fX3_lowest_L9 C n (nI i) (lN b) (lN a) = C j (lN 0) (lN (Nat.gcd b a)) := by
  intro k
  induction k with
  | zero =>
    intro i n a b ha hb hk hi hn
    obtain ⟨n, rfl⟩ : ∃ m, n = m + 1 := ⟨n - 1, by omega⟩
    obtain rfl : b = 0 := by omega
    refine ⟨nI i, ?_⟩
    rw [fX3_lowest_L9, if_neg (show ¬ (100 : Int32) ≤ nI i from nI_ge (b := 100) (by omega) (by omega)), if_pos (by rw [cmpz (by omega)]), Nat.gcd_zero_left]
  | succ k ih =>
    intro i n a b ha hb hk hi hn
    obtain ⟨n, rfl⟩ : ∃ m, n = m + 2 := ⟨n - 2, by omega⟩
    rw [fX3_lowest_L9, if_neg (show ¬ (100 : Int32) ≤ nI i from nI_ge (b := 100) (by omega) (by omega))]
    by_cases c : b = 0
    · subst c
      exact ⟨nI i, by rw [if_pos (by rw [cmpz (by omega)]), Nat.gcd_zero_left]⟩
    · rw [if_neg (by rw [cmpz (by omega)]; exact c), gzl_n _ c (by omega), nm_q, nm_q, pk_lRem (by omega) (by omega) (by omega), nI_1]
      have hm := Nat.mod_lt a (show b > 0 by omega)
      rw [fX3_lowest_L9, if_neg (show ¬ (100 : Int32) ≤ nI (i + 1) from nI_ge (b := 100) (by omega) (by omega)), Nat.gcd_rec b a]
      by_cases c2 : a % b = 0
      · exact ⟨nI (i + 1), by rw [c2, if_pos (by rw [cmpz (by omega)]), Nat.gcd_zero_left]⟩
      · have hf := half c2 hm
        have hm2 := Nat.mod_lt b (show a % b > 0 by omega)
        rw [if_neg (by rw [cmpz (by omega)]; exact c2), gzl_n _ c2 (by omega), nm_q, nm_q, pk_lRem (by omega) (by omega) (by omega), nI_1, Nat.gcd_rec (a % b) b]
        have hp : 2 ^ (k + 1) = 2 ^ k * 2 := Nat.pow_succ ..
        exact ih (i + 1 + 1) n (a % b) (b % (a % b)) (by omega) (by omega) (by omega) (by omega) (by omega)
theorem m_com (C : Int64 → Int64 → Option Int64) : ∀ k n a b, a < 2 ^ 62 → b < 2 ^ 62 → b < 2 ^ k → 2 * k < n → fX6_common_L6 C n (lN b) (lN a) = C (lN 0) (lN (Nat.gcd b a)) := by
  intro k
  induction k with
  | zero =>
    intro n a b ha hb hk hn
    obtain ⟨n, rfl⟩ : ∃ m, n = m + 1 := ⟨n - 1, by omega⟩
    obtain rfl : b = 0 := by omega
    rw [fX6_common_L6, if_pos (by rw [cmpz (by omega)]), Nat.gcd_zero_left]
  | succ k ih =>
    intro n a b ha hb hk hn
    obtain ⟨n, rfl⟩ : ∃ m, n = m + 2 := ⟨n - 2, by omega⟩
    rw [fX6_common_L6]
    by_cases c : b = 0
    · subst c
      rw [if_pos (by rw [cmpz (by omega)]), Nat.gcd_zero_left]
    · rw [if_neg (by rw [cmpz (by omega)]; exact c), gzl_n _ c (by omega), nm_q, pk_lRem (by omega) (by omega) (by omega)]
      have hm := Nat.mod_lt a (show b > 0 by omega)
      rw [fX6_common_L6, Nat.gcd_rec b a]
      by_cases c2 : a % b = 0
      · rw [c2, if_pos (by rw [cmpz (by omega)]), Nat.gcd_zero_left]
      · have hf := half c2 hm
        have hm2 := Nat.mod_lt b (show a % b > 0 by omega)
        rw [if_neg (by rw [cmpz (by omega)]; exact c2), gzl_n _ c2 (by omega), nm_q, pk_lRem (by omega) (by omega) (by omega), Nat.gcd_rec (a % b) b]
        have hp : 2 ^ (k + 1) = 2 ^ k * 2 := Nat.pow_succ ..
        exact ih n (a % b) (b % (a % b)) (by omega) (by omega) (by omega) (by omega)
/-- the class's fraction and the reference's are one -/
theorem frac {S j : Nat} (hS : S ≤ 20000000) (hj : j ≤ 1) : ∃ r, fX3_lowest (lN S) 100000 (nI j) = some r ∧ fX6_told (lN (100000 * S)) (lN (10 ^ 10)) (nI j) = some r := by
  obtain ⟨F, hF⟩ : ∃ F, F = 4096 := ⟨_, rfl⟩
  have hg0 : 0 < Nat.gcd S 100000 := Nat.gcd_pos_of_pos_right _ (by omega)
  have hgl : Nat.gcd S 100000 ≤ 100000 := Nat.gcd_le_right _ (by omega)
  have eg : Nat.gcd (100000 * S) (10 ^ 10) = 100000 * Nat.gcd S 100000 := by
    rw [show (10 ^ 10 : Nat) = 100000 * 100000 by decide, Nat.gcd_mul_left]
  have d1 : 100000 * S / (100000 * Nat.gcd S 100000) = S / Nat.gcd S 100000 := Nat.mul_div_mul_left _ _ (by omega)
  have d2 : 10 ^ 10 / (100000 * Nat.gcd S 100000) = 100000 / Nat.gcd S 100000 := by
    rw [show (10 ^ 10 : Nat) = 100000 * 100000 by decide, Nat.mul_div_mul_left _ _ (by omega)]
  have m1 : fX6_common (lN (10 ^ 10)) (lN (100000 * S)) = some (lN (100000 * Nat.gcd S 100000)) := by
    rw [fX6_common, ← hF, m_com _ 42 F _ _ (by decide) (by omega) (by omega) (by omega), eg]
  rw [fX6_told, m1, bd1_some, fX3_lowest, ← hF]
  have hj2 : j = 0 ∨ j = 1 := by omega
  rcases hj2 with rfl | rfl
  · obtain ⟨a, ea⟩ := c_low (fun v1 v2 v3 => bd1 (if nI 0 = 0 then some (lN S) else some 100000) fun y10 => if lg_cmp v3 0 = 0 then some y10 else gzl v3 (nm (y10 / v3) fun x15 => some x15)) 25 0 F 100000 S (by omega) (by omega) (by omega) (by omega) (by omega)
    refine ⟨lN (S / Nat.gcd S 100000), ?_, ?_⟩
    · refine Eq.trans ea ?_
      rw [if_pos (show nI 0 = 0 from rfl), bd1_some, if_neg (by rw [cmpz (by omega)]; omega), gzl_n _ (by omega) (by omega), nm_q, pk_lDiv (by omega) hg0 (by omega)]
    · rw [if_pos (show nI 0 = 0 from rfl), gzl_n _ (by omega) (by omega), nm_q, pk_lDiv (by omega) (by omega) (by omega), d1]
  · obtain ⟨a, ea⟩ := c_low (fun v1 v2 v3 => bd1 (if nI 1 = 0 then some (lN S) else some 100000) fun y10 => if lg_cmp v3 0 = 0 then some y10 else gzl v3 (nm (y10 / v3) fun x15 => some x15)) 25 0 F 100000 S (by omega) (by omega) (by omega) (by omega) (by omega)
    refine ⟨lN (100000 / Nat.gcd S 100000), ?_, ?_⟩
    · refine Eq.trans ea ?_
      rw [if_neg (show ¬ nI 1 = 0 from n10), bd1_some, if_neg (by rw [cmpz (by omega)]; omega), gzl_n _ (by omega) (by omega), nm_q, show (100000 : Int64) = lN 100000 from rfl, pk_lDiv (by omega) hg0 (by omega)]
    · rw [if_neg (show ¬ nI 1 = 0 from n10), gzl_n _ (by omega) (by omega), nm_q, pk_lDiv (by omega) (by omega) (by omega), d2]
theorem c_ten (p : Int32) : (∃ j, j ≤ 10 ∧ p = nI j ∧ fX3_isOutOfTen p = some (nI 1) ∧ fX6_in p.toInt64 0 10 = some (nI 1)) ∨ (fX3_isOutOfTen p = some (nI 0) ∧ fX6_in p.toInt64 0 10 = some (nI 0)) := by
  rcases in_rg p 0 10 (by omega) (by omega) with ⟨j, h1, h2, rfl, h3⟩ | ⟨h1, h2⟩
  · refine Or.inl ⟨j, h2, rfl, ?_, h3⟩
    simp (disch := omega) only [fX3_isOutOfTen, nm_q, bd1_some, bd2_some, bd3_some, bd4_some, bd5_some, bd6_some, bd7_some, bd8_some, bd9_some, bd10_some, bd11_some, bd1_ite, ↓reduceIte, gd_nI, gb_nI, gb_ite, li, liL, nI_add, nI_1, pk_sub, pk_mul, pk_div, nI_clamp, nI_eq, nI_leI, nI_ltI, nI_eqn, nI_neq, nI_nn, nI_len, nI_ltn, ngI_le, ngI_lt, nng, sm10, sm8, shr_n, shl_n, and_1, fa_or, leT, leF, ltT, ltF, eqT, eqF]
  · exact Or.inr ⟨rgC (a := 0) _ _ (by omega) h1, h2⟩
theorem cSum_le {K : KT} {v : Nat} {f : DK → Nat} {nw : CT} (hK : WFk K) (hc : RCc K nw) (hv : v ≤ 10) (da : DT) (hf : ∀ D, f D ≤ 5) : cSum K v f (2 ^ kN K) ≤ 20000000 := by
  have hN := WF_N hK
  have h32 : 2 ^ kN K ≤ 32 := Nat.pow_le_pow_right (n := 2) (j := 5) (by omega) hN
  have hb : cSum K v f (2 ^ kN K) ≤ 2 ^ kN K * 500000 := fb_sm_bound fun m hm => by
    obtain ⟨_, _, g2, _⟩ := c_odds (m := m) da hK hc hv (by omega)
    have := Nat.mul_le_mul g2 (hf (otm K v m).2.2)
    omega
  omega
theorem ev_luck (v : VT) (rd : RT) (dr : CT) (nw : CT) (tr : CT) (da : DT) (i0 : CT) (i1 : CT) (s0 : ST) (s1 : ST) (s2 : ST) (s3 : ST) (st : AI) (now : AI) (isKept : AI) (hearers : Int32) (draft : AI) (dHearers : Int32) (dWalls : Int32) (toldWinds : Int32) (tape : AI) (taped : Int32) (pos : Int32) (frm : Int32) (sort : Int32) (value : Int32) (fault : Int32) (wrongAt : Int32) (landed : AI) (landedIn : AI) (stepped : AI) (isThere : AI) (isAt : AI) (isNext : AI) (landSum : Int64) (heardSum : Int64) (allWays : Int64) (ways : AI) (drawn : AI) (lanes : AI) (sizes : AI) (cells : AI) (torn : Int32) (before : AI) (hR : Rel v rd nw i0 i1 s0 s1 s2 s3 st isKept hearers tape taped fault lanes sizes cells torn) (p1 : Int32) (p2 : Int32) (p3 : Int32) (p4 : Int32) : ∃ (res : Int64) (da_x : DT) (now_x : AI) (landed_x : AI) (landedIn_x : AI) (stepped_x : AI) (landSum_x : Int64) (heardSum_x : Int64) (allWays_x : Int64), fX5_luck p1 p2 p3 p4 v nw da = some (res, da_x) ∧ fX6_luck p1 p2 p3 p4 st now hearers landed landedIn stepped landSum heardSum allWays = some (res, now_x, landed_x, landedIn_x, stepped_x, landSum_x, heardSum_x, allWays_x) ∧ (Rel v rd nw i0 i1 s0 s1 s2 s3 st isKept hearers tape taped fault lanes sizes cells torn) := by
  have hR0 := hR
  obtain ⟨⟨K, hK, hc, hm⟩, r0, r1, rt, rf, q0, q1, q2, q3, rl⟩ := hR
  have hm0 := RCm0 hm
  have hN := WF_N hK
  rcases c_ten p1 with ⟨w, hw, rfl, t1, t2⟩ | ⟨t1, t2⟩
  · rcases isSay hN hc.2.2.1 hm0.2.2.1 p2 with ⟨s, hs, rfl, f1, f2⟩ | ⟨f1, f2⟩
    · rcases isC p3 with ⟨q, hq, rfl, g1, g2⟩ | ⟨g1, g2⟩
      · rcases isPt p4 with ⟨j, hj, rfl, h3⟩ | ⟨h1, h2⟩
        · obtain ⟨F, hF⟩ : ∃ F, F = 4096 := ⟨_, rfl⟩
          obtain ⟨n', la', lh', ls', k1⟩ := m_odds hK hm hw (show s < 5 by omega) hq now landed landedIn stepped landSum heardSum allWays
          have hle := cSum_le (f := fLuck s q) hK hc hw da (fun D => by unfold fLuck; split <;> omega)
          obtain ⟨r, r1', r2'⟩ := frac (S := cSum K w (fLuck s q) (2 ^ kN K)) hle hj
          have es : fb_sm (lTerm K w s q) 1024 = 100000 * cSum K w (fLuck s q) (2 ^ kN K) := by
            rw [← sums hK hw]
            refine fb_sm_cong fun m hm => ?_
            unfold lTerm fLuck atB
            rw [bs_tb]
            have hs2 : s < kN (Km K m) := hs
            by_cases c : (dayK (Km K m)).2.1 s = q
            · simp [hs2, c]
            · simp [c]
          rw [es] at k1
          have key : ∃ d', fX5_luck (nI w) (nI s) (nI (cell q)) (nI j) v nw da = some (r, d') := by
            rw [fX5_luck, t1, bd1_some, if_neg (show ¬ nI 1 = 0 from n10), f1, bd1_some, if_neg (show ¬ nI 1 = 0 from n10), g1, bd1_some, if_neg (show ¬ nI 1 = 0 from n10), if_neg (nI_pos (show j < 2 ^ 31 by omega)), if_pos (show nI j ≤ 1 from nI_le (b := 1) (by omega) (by omega)), c_place hq, bd1_some, ← hF]
            exact c_luckL hK hc hw hs hq (fun x => ∃ d', x = some (r, d')) _ (fun a d => ⟨d, by rw [r1', bd1_some]⟩) F (by omega) da
          obtain ⟨d', e1⟩ := key
          refine ⟨r, d', n', la', lh', ls', lN (100000 * cSum K w (fLuck s q) (2 ^ kN K)), lN (fb_sm (hTerm K w) 1024), lN (10 ^ 10), e1, ?_, hR0⟩
          rw [fX6_luck, nm_q, t2, bd1_some, if_neg (show ¬ nI 1 = 0 from n10), f2, bd1_some, if_neg (show ¬ nI 1 = 0 from n10), g2, bd1_some, if_neg (show ¬ nI 1 = 0 from n10), h3, bd1_some, if_neg (show ¬ nI 1 = 0 from n10), k1, bd7_some, r2', bd1_some]
        · refine ⟨-1, da, now, landed, landedIn, stepped, landSum, heardSum, allWays, ?_, ?_, hR0⟩
          · rw [fX5_luck, t1, bd1_some, if_neg (show ¬ nI 1 = 0 from n10), f1, bd1_some, if_neg (show ¬ nI 1 = 0 from n10), g1, bd1_some, if_neg (show ¬ nI 1 = 0 from n10)]
            exact rgA _ _ h1
          · rw [fX6_luck, nm_q, t2, bd1_some, if_neg (show ¬ nI 1 = 0 from n10), f2, bd1_some, if_neg (show ¬ nI 1 = 0 from n10), g2, bd1_some, if_neg (show ¬ nI 1 = 0 from n10), h2]; rfl
      · refine ⟨-1, da, now, landed, landedIn, stepped, landSum, heardSum, allWays, ?_, ?_, hR0⟩
        · rw [fX5_luck, t1, bd1_some, if_neg (show ¬ nI 1 = 0 from n10), f1, bd1_some, if_neg (show ¬ nI 1 = 0 from n10), g1]; rfl
        · rw [fX6_luck, nm_q, t2, bd1_some, if_neg (show ¬ nI 1 = 0 from n10), f2, bd1_some, if_neg (show ¬ nI 1 = 0 from n10), g2]; rfl
    · refine ⟨-1, da, now, landed, landedIn, stepped, landSum, heardSum, allWays, ?_, ?_, hR0⟩
      · rw [fX5_luck, t1, bd1_some, if_neg (show ¬ nI 1 = 0 from n10), f1]; rfl
      · rw [fX6_luck, nm_q, t2, bd1_some, if_neg (show ¬ nI 1 = 0 from n10), f2]; rfl
  · refine ⟨-1, da, now, landed, landedIn, stepped, landSum, heardSum, allWays, ?_, ?_, hR0⟩
    · rw [fX5_luck, t1]; rfl
    · rw [fX6_luck, nm_q, t2]; rfl
theorem ev_mean (v : VT) (rd : RT) (dr : CT) (nw : CT) (tr : CT) (da : DT) (i0 : CT) (i1 : CT) (s0 : ST) (s1 : ST) (s2 : ST) (s3 : ST) (st : AI) (now : AI) (isKept : AI) (hearers : Int32) (draft : AI) (dHearers : Int32) (dWalls : Int32) (toldWinds : Int32) (tape : AI) (taped : Int32) (pos : Int32) (frm : Int32) (sort : Int32) (value : Int32) (fault : Int32) (wrongAt : Int32) (landed : AI) (landedIn : AI) (stepped : AI) (isThere : AI) (isAt : AI) (isNext : AI) (landSum : Int64) (heardSum : Int64) (allWays : Int64) (ways : AI) (drawn : AI) (lanes : AI) (sizes : AI) (cells : AI) (torn : Int32) (before : AI) (hR : Rel v rd nw i0 i1 s0 s1 s2 s3 st isKept hearers tape taped fault lanes sizes cells torn) (p1 : Int32) (p2 : Int32) : ∃ (res : Int64) (da_x : DT) (now_x : AI) (landed_x : AI) (landedIn_x : AI) (stepped_x : AI) (landSum_x : Int64) (heardSum_x : Int64) (allWays_x : Int64), fX5_mean p1 p2 v nw da = some (res, da_x) ∧ fX6_mean p1 p2 st now hearers landed landedIn stepped landSum heardSum allWays = some (res, now_x, landed_x, landedIn_x, stepped_x, landSum_x, heardSum_x, allWays_x) ∧ (Rel v rd nw i0 i1 s0 s1 s2 s3 st isKept hearers tape taped fault lanes sizes cells torn) := by
  have hR0 := hR
  obtain ⟨⟨K, hK, hc, hm⟩, r0, r1, rt, rf, q0, q1, q2, q3, rl⟩ := hR
  have hN := WF_N hK
  rcases c_ten p1 with ⟨w, hw, rfl, t1, t2⟩ | ⟨t1, t2⟩
  · rcases isPt p2 with ⟨j, hj, rfl, h3⟩ | ⟨h1, h2⟩
    · obtain ⟨F, hF⟩ : ∃ F, F = 4096 := ⟨_, rfl⟩
      obtain ⟨n', la', lh', ls', k1⟩ := m_odds (s := 0) (q := 0) hK hm hw (by omega) (by omega) now landed landedIn stepped landSum heardSum allWays
      have hle := cSum_le (f := fMean K) hK hc hw da (fun D => Nat.le_trans (ct_le _ _) hN)
      obtain ⟨r, r1', r2'⟩ := frac (S := cSum K w (fMean K) (2 ^ kN K)) hle hj
      have es : fb_sm (hTerm K w) 1024 = 100000 * cSum K w (fMean K) (2 ^ kN K) := by
        rw [← sums hK hw]
        exact fb_sm_cong fun m hm => rfl
      rw [es] at k1
      have k2 : fX6_findOdds (nI w) 0 0 st now hearers landed landedIn stepped landSum heardSum allWays = _ := k1
      have key : ∃ d', fX5_mean (nI w) (nI j) v nw da = some (r, d') := by
        rw [fX5_mean, t1, bd1_some, if_neg (show ¬ nI 1 = 0 from n10), if_neg (nI_pos (show j < 2 ^ 31 by omega)), if_pos (show nI j ≤ 1 from nI_le (b := 1) (by omega) (by omega)), ← hF]
        exact c_meanL hK hc hw (fun x => ∃ d', x = some (r, d')) _ (fun a d => ⟨d, by rw [r1', bd1_some]⟩) F (by omega) da
      obtain ⟨d', e1⟩ := key
      refine ⟨r, d', n', la', lh', ls', lN (fb_sm (lTerm K w 0 0) 1024), lN (100000 * cSum K w (fMean K) (2 ^ kN K)), lN (10 ^ 10), e1, ?_, hR0⟩
      rw [fX6_mean, nm_q, t2, bd1_some, if_neg (show ¬ nI 1 = 0 from n10), h3, bd1_some, if_neg (show ¬ nI 1 = 0 from n10), k2, bd7_some, r2', bd1_some]
    · refine ⟨-1, da, now, landed, landedIn, stepped, landSum, heardSum, allWays, ?_, ?_, hR0⟩
      · rw [fX5_mean, t1, bd1_some, if_neg (show ¬ nI 1 = 0 from n10)]
        exact rgA _ _ h1
      · rw [fX6_mean, nm_q, t2, bd1_some, if_neg (show ¬ nI 1 = 0 from n10), h2]; rfl
  · refine ⟨-1, da, now, landed, landedIn, stepped, landSum, heardSum, allWays, ?_, ?_, hR0⟩
    · rw [fX5_mean, t1]; rfl
    · rw [fX6_mean, nm_q, t2]; rfl
