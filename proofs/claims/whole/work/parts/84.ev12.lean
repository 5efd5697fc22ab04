-- as it was SEEN: kinds, forces, froms
theorem m_seenL {K : KT} {st la : AI} (hK : WFk K) (e48 : st 48 = nI (kS K)) (e49 : ∀ i, i < kS K → st (49 + 2 * i) = nI (kSs K i)) (e50 : ∀ i, i < kS K → st (50 + 2 * i) = nI (cell (kSp K i))) (hl : ∀ s, s < kN K → la s = nI (cell ((dayK K).2.1 s)) ∧ (dayK K).2.1 s < 64) (C : Int32 → Int32 → Option (Int32 × AI × AI × AI × AI)) (F : Nat) (hF : 7 < F) : fX6_isSoWith_L21 st la C F 0 1 = C (nI (kS K)) (if asB K (dayK K).2.1 (kS K) then nI 1 else nI 0) := by
  have hN := WF_N hK
  have hS := WF_S hK
  have hs := hK.2.2.2.2.2.2.2.2
  refine solo (fun n (t : Int32 × Int32) => fX6_isSoWith_L21 st la C n t.1 t.2) (fun i t => t = (nI i, if asB K (dayK K).2.1 i then nI 1 else nI 0)) (fun x => x = C (nI (kS K)) (if asB K (dayK K).2.1 (kS K) then nI 1 else nI 0)) (kS K) ?_ ?_ (kS K) 0 F (nI 0, nI 1) (by omega) (by omega) rfl
  · rintro i t n hi rfl ih
    have next := ih _ rfl
    show fX6_isSoWith_L21 st la C (n + 1) (nI i) (if asB K (dayK K).2.1 i then nI 1 else nI 0) = _
    rw [asB] at next
    rw [fX6_isSoWith_L21]
    have a1 := e49 i hi
    have a2 : st (49 + 2 * i + 1) = nI (cell (kSp K i)) := by rw [← e50 i hi]; congr 1; omega
    obtain ⟨b1, b2⟩ := hs i hi
    obtain ⟨b3, b4⟩ := hl _ b1
    cases ea : asB K (dayK K).2.1 i with
    | false =>
      rw [ea] at next
      simp (disch := omega) only [nm_q, bd1_some, bd2_some, bd3_some, bd4_some, bd5_some, bd6_some, bd7_some, bd8_some, bd9_some, bd10_some, bd11_some, bd1_ite, ↓reduceIte, gd_nI, gb_nI, gb_ite, li, liL, nI_add, nI_1, pk_sub, pk_mul, pk_div, nI_clamp, nI_eq, nI_leI, nI_ltI, nI_eqn, nI_neq, nI_nn, nI_len, nI_ltn, ngI_le, ngI_lt, nng, sm10, sm8, shr_n, shl_n, and_1, fa_or, leT, leF, ltT, ltF, eqT, eqF, e48, ff_i]
      exact next
    | true =>
      rw [ea] at next
      by_cases c : (dayK K).2.1 (kSs K i) = kSp K i
      · rw [c] at next
        simp (disch := omega) only [nm_q, bd1_some, bd2_some, bd3_some, bd4_some, bd5_some, bd6_some, bd7_some, bd8_some, bd9_some, bd10_some, bd11_some, bd1_ite, ↓reduceIte, gd_nI, gb_nI, gb_ite, li, liL, nI_add, nI_1, pk_sub, pk_mul, pk_div, nI_clamp, nI_eq, nI_leI, nI_ltI, nI_eqn, nI_neq, nI_nn, nI_len, nI_ltn, ngI_le, ngI_lt, nng, sm10, sm8, shr_n, shl_n, and_1, fa_or, leT, leF, ltT, ltF, eqT, eqF, e48, tt_i, a1, a2, b3, ci_eq]
        simpa using next
      · rw [show ((dayK K).2.1 (kSs K i) == kSp K i) = false by simpa using c] at next
        simp (disch := omega) only [nm_q, bd1_some, bd2_some, bd3_some, bd4_some, bd5_some, bd6_some, bd7_some, bd8_some, bd9_some, bd10_some, bd11_some, bd1_ite, ↓reduceIte, gd_nI, gb_nI, gb_ite, li, liL, nI_add, nI_1, pk_sub, pk_mul, pk_div, nI_clamp, nI_eq, nI_leI, nI_ltI, nI_eqn, nI_neq, nI_nn, nI_len, nI_ltn, ngI_le, ngI_lt, nng, sm10, sm8, shr_n, shl_n, and_1, fa_or, leT, leF, ltT, ltF, eqT, eqF, e48, tt_i, a1, a2, b3, ci_eq]
        exact next
  · rintro t n rfl
    show fX6_isSoWith_L21 st la C (n + 1) (nI (kS K)) (if asB K (dayK K).2.1 (kS K) then nI 1 else nI 0) = _
    rw [fX6_isSoWith_L21]
    simp (disch := omega) only [nm_q, bd1_some, bd2_some, bd3_some, bd4_some, bd5_some, bd6_some, bd7_some, bd8_some, bd9_some, bd10_some, bd11_some, bd1_ite, ↓reduceIte, gd_nI, gb_nI, gb_ite, li, liL, nI_add, nI_1, pk_sub, pk_mul, pk_div, nI_clamp, nI_eq, nI_leI, nI_ltI, nI_eqn, nI_neq, nI_nn, nI_len, nI_ltn, ngI_le, ngI_lt, nng, sm10, sm8, shr_n, shl_n, and_1, fa_or, leT, leF, ltT, ltF, eqT, eqF, e48]
/-- all is as it was SEEN with one number told otherwise -/
def soB (K : KT) (s k v : Nat) : Bool := asB (setT K s k v) (dayK (setT K s k v)).2.1 (kS K)
theorem gb_b {β : Type} (b : Bool) (k : Option β) : gb (if b then nI 1 else nI 0) k = k := by cases b <;> rfl
theorem m_isSo {K : KT} {s k v : Nat} {st : AI} {h : Int32} (now la lh ls : AI) (hK : WFk K) (hm : RCm K st 0 h) (hs : s < kN K) (hk : k < 5) (hv : okV k v) : ∃ now' la' lh' ls', fX6_isSoWith (nI s) (nI k) (nI (tvk k v)) st now la lh ls = some (if soB K s k v then nI 1 else nI 0, now', la', lh', ls') ∧ RMy (setT K s k v) now' la' lh' ls' := by
  have hN := WF_N hK
  obtain ⟨n', la', lh', ls', k1, k2⟩ := m_try now la lh ls hK hm hs hk hv
  refine ⟨n', la', lh', ls', ?_, k2⟩
  obtain ⟨F, hF⟩ : ∃ F, F = 4096 := ⟨_, rfl⟩
  have hm0 := RCm0 hm
  rw [fX6_isSoWith, m_starts, bd1_some, m_bec (nI (tvk k v)) _ (by omega) hk, bd1_some, k1, bd4_some, ← hF, m_seenL (K := setT K s k v) (WF_set hK hs hv) hm0.2.2.2.2.2.2.1 hm0.2.2.2.2.2.2.2.1 hm0.2.2.2.2.2.2.2.2 (fun u hu => ⟨(k2.2 u hu).1, (k2.2 u hu).2.1⟩) _ F (by omega), gb_b]
  rfl
theorem bs_z {p : Nat → Bool} : ∀ {n : Nat}, (∀ k, k < n → p k = false) → bs p n = 0
  | 0, _ => rfl
  | n + 1, h => by rw [bs, bs_z (fun k hk => h k (by omega)), h n (by omega)]; simp
/-- bits of the numbers a .. b that make all be as SEEN -/
def soM (K : KT) (s k a b : Nat) : Nat := bs (fun v => decide (a ≤ v) && soB K s k v) (b + 1)
theorem c_asSeen {K : KT} {s k a b : Nat} {nw : CT} (v : VT) (tr : CT) (da : DT) (hK : WFk K) (hc : RCc K nw) (hs : s < kN K) (hk : k < 5) (hk1 : k ≠ 1) (hab : a ≤ b) (hb : b ≤ 9) (hv : ∀ v, a ≤ v → v ≤ b → okV k v) : ∃ tr' da', fX5_asSeenBy (nI s) (nI k) (nI a) (nI b) v nw tr da = some (nI (soM K s k a b), tr', da') := by
  have hN := WF_N hK
  obtain ⟨F, hF⟩ : ∃ F, F = 4096 := ⟨_, rfl⟩
  rw [fX5_asSeenBy, fX0_copyTo, bd1_some, ← hF]
  refine solo (fun n (t : Int32 × Int32 × CT × DT) => fX5_asSeenBy_L17 (nI s) (nI k) (nI b) (fun v3 v4 tr_5 da_6 => some (v4, tr_5, da_6)) n t.1 t.2.1 t.2.2.1 t.2.2.2) (fun i t => a ≤ i ∧ t.1 = nI i ∧ t.2.1 = nI (bs (fun v => decide (a ≤ v) && soB K s k v) i) ∧ ∃ v', RCc (setT K s k v') t.2.2.1) (fun x => ∃ tr' da', x = some (nI (soM K s k a b), tr', da')) (b + 1) ?_ ?_ (b + 1 - a) a F (nI a, nI 0, nw, da) (by omega) (by omega) ⟨Nat.le_refl _, rfl, by rw [bs_z (fun j hj => by simp; omega)], _, by rw [set_same]; exact hc⟩
  · rintro i ⟨x1, x2, tr, da⟩ n hi ⟨e0, e1, e2, v', e3⟩ ih
    simp only at e1 e2 e3 ⊢
    subst e1 e2
    have ov := hv i e0 (by omega)
    obtain ⟨da', g1, g2, g3⟩ := c_try da hK hs ov e3
    have g4 : fX1_isAsSeen da' _ = some (if soB K s k i then nI 1 else nI 0) := c_seen g3 (WF_set hK hs ov) g2
    have et : tvk k i = i := if_neg hk1
    have next := ih (nI (i + 1), nI (bs (fun v => decide (a ≤ v) && soB K s k v) (i + 1)), _, da') ⟨by omega, rfl, rfl, i, g2⟩
    rw [bs] at next
    rw [et] at g1 g4 next
    rw [fX5_asSeenBy_L17]
    cases eb : soB K s k i with
    | true =>
      rw [eb] at g4
      rw [if_pos (by simp [eb, e0])] at next
      simp (disch := omega) only [nm_q, bd1_some, bd2_some, bd3_some, bd4_some, bd5_some, bd6_some, bd7_some, bd8_some, bd9_some, bd10_some, bd11_some, bd1_ite, ↓reduceIte, gd_nI, gb_nI, gb_ite, li, liL, nI_add, nI_1, pk_sub, pk_mul, pk_div, nI_clamp, nI_eq, nI_leI, nI_ltI, nI_eqn, nI_neq, nI_nn, nI_len, nI_ltn, ngI_le, ngI_lt, nng, sm10, sm8, shr_n, shl_n, and_1, fa_or, leT, leF, ltT, ltF, eqT, eqF, g1, g4, tt_i, shl_1]
      exact next
    | false =>
      rw [eb] at g4
      rw [if_neg (by simp [eb]), or_0] at next
      simp (disch := omega) only [nm_q, bd1_some, bd2_some, bd3_some, bd4_some, bd5_some, bd6_some, bd7_some, bd8_some, bd9_some, bd10_some, bd11_some, bd1_ite, ↓reduceIte, gd_nI, gb_nI, gb_ite, li, liL, nI_add, nI_1, pk_sub, pk_mul, pk_div, nI_clamp, nI_eq, nI_leI, nI_ltI, nI_eqn, nI_neq, nI_nn, nI_len, nI_ltn, ngI_le, ngI_lt, nng, sm10, sm8, shr_n, shl_n, and_1, fa_or, leT, leF, ltT, ltF, eqT, eqF, g1, g4, ff_i]
      exact next
  · rintro ⟨x1, x2, tr, da⟩ n ⟨e0, e1, e2, e3⟩
    simp only at e1 e2 e3 ⊢
    subst e1 e2
    rw [fX5_asSeenBy_L17]
    simp (disch := omega) only [nm_q, bd1_some, bd2_some, bd3_some, bd4_some, bd5_some, bd6_some, bd7_some, bd8_some, bd9_some, bd10_some, bd11_some, bd1_ite, ↓reduceIte, gd_nI, gb_nI, gb_ite, li, liL, nI_add, nI_1, pk_sub, pk_mul, pk_div, nI_clamp, nI_eq, nI_leI, nI_ltI, nI_eqn, nI_neq, nI_nn, nI_len, nI_ltn, ngI_le, ngI_lt, nng, sm10, sm8, shr_n, shl_n, and_1, fa_or, leT, leF, ltT, ltF, eqT, eqF]
    exact ⟨_, _, rfl⟩
theorem m_kinds {K : KT} {s : Nat} {st : AI} {h : Int32} (now la lh ls : AI) (hK : WFk K) (hm : RCm K st 0 h) (hs : s < kN K) (F : Nat) (hF : 9 < F) : ∃ now' la' lh' ls', fX6_kinds_L14 st (nI s) (fun v4 v5 now_6 landed_7 landedIn_8 stepped_9 => some (v5, now_6, landed_7, landedIn_8, stepped_9)) F 0 0 now la lh ls = some (nI (soM K s 0 0 3), now', la', lh', ls') := by
  refine solo (fun n (t : Int32 × Int32 × AI × AI × AI × AI) => fX6_kinds_L14 st (nI s) (fun v4 v5 now_6 landed_7 landedIn_8 stepped_9 => some (v5, now_6, landed_7, landedIn_8, stepped_9)) n t.1 t.2.1 t.2.2.1 t.2.2.2.1 t.2.2.2.2.1 t.2.2.2.2.2) (fun i t => t.1 = nI i ∧ t.2.1 = nI (bs (fun v => decide (0 ≤ v) && soB K s 0 v) i)) (fun x => ∃ now' la' lh' ls', x = some (nI (soM K s 0 0 3), now', la', lh', ls')) 4 ?_ ?_ 4 0 F (nI 0, nI 0, now, la, lh, ls) (by omega) (by omega) ⟨rfl, rfl⟩
  · rintro i ⟨x1, x2, now, la, lh, ls⟩ n hi ⟨e1, e2⟩ ih
    simp only at e1 e2 ⊢
    subst e1 e2
    obtain ⟨n', la', lh', ls', k1, _⟩ := m_isSo now la lh ls hK hm hs (show 0 < 5 by omega) (ok0 (show i ≤ 3 by omega))
    rw [show tvk 0 i = i from rfl] at k1
    have next := ih (nI (i + 1), nI (bs (fun v => decide (0 ≤ v) && soB K s 0 v) (i + 1)), n', la', lh', ls') ⟨rfl, rfl⟩
    rw [bs] at next
    rw [fX6_kinds_L14]
    cases eb : soB K s 0 i with
    | true =>
      rw [eb] at k1
      rw [if_pos (by simp [eb])] at next
      simp (disch := omega) only [nm_q, bd1_some, bd2_some, bd3_some, bd4_some, bd5_some, bd6_some, bd7_some, bd8_some, bd9_some, bd10_some, bd11_some, bd1_ite, ↓reduceIte, gd_nI, gb_nI, gb_ite, li, liL, nI_add, nI_1, pk_sub, pk_mul, pk_div, nI_clamp, nI_eq, nI_leI, nI_ltI, nI_eqn, nI_neq, nI_nn, nI_len, nI_ltn, ngI_le, ngI_lt, nng, sm10, sm8, shr_n, shl_n, and_1, fa_or, leT, leF, ltT, ltF, eqT, eqF, k1, tt_i, shl_1, shl_0, Nat.zero_mul, Nat.or_zero, Nat.one_mul, Nat.add_zero, flag_1, flag_0]
      exact next
    | false =>
      rw [eb] at k1
      rw [if_neg (by simp [eb]), or_0] at next
      simp (disch := omega) only [nm_q, bd1_some, bd2_some, bd3_some, bd4_some, bd5_some, bd6_some, bd7_some, bd8_some, bd9_some, bd10_some, bd11_some, bd1_ite, ↓reduceIte, gd_nI, gb_nI, gb_ite, li, liL, nI_add, nI_1, pk_sub, pk_mul, pk_div, nI_clamp, nI_eq, nI_leI, nI_ltI, nI_eqn, nI_neq, nI_nn, nI_len, nI_ltn, ngI_le, ngI_lt, nng, sm10, sm8, shr_n, shl_n, and_1, fa_or, leT, leF, ltT, ltF, eqT, eqF, k1, ff_i, shl_1, shl_0, Nat.zero_mul, Nat.or_zero, Nat.one_mul, Nat.add_zero, flag_1, flag_0]
      exact next
  · rintro ⟨x1, x2, now, la, lh, ls⟩ n ⟨e1, e2⟩
    simp only at e1 e2 ⊢
    subst e1 e2
    rw [fX6_kinds_L14]
    simp (disch := omega) only [nm_q, bd1_some, bd2_some, bd3_some, bd4_some, bd5_some, bd6_some, bd7_some, bd8_some, bd9_some, bd10_some, bd11_some, bd1_ite, ↓reduceIte, gd_nI, gb_nI, gb_ite, li, liL, nI_add, nI_1, pk_sub, pk_mul, pk_div, nI_clamp, nI_eq, nI_leI, nI_ltI, nI_eqn, nI_neq, nI_nn, nI_len, nI_ltn, ngI_le, ngI_lt, nng, sm10, sm8, shr_n, shl_n, and_1, fa_or, leT, leF, ltT, ltF, eqT, eqF]
    exact ⟨_, _, _, _, rfl⟩
theorem m_forces {K : KT} {s : Nat} {st : AI} {h : Int32} (now la lh ls : AI) (hK : WFk K) (hm : RCm K st 0 h) (hs : s < kN K) (F : Nat) (hF : 19 < F) : ∃ now' la' lh' ls', fX6_forces_L14 st (nI s) (fun v4 v5 now_6 landed_7 landedIn_8 stepped_9 => some (v5, now_6, landed_7, landedIn_8, stepped_9)) F 1 0 now la lh ls = some (nI (soM K s 3 1 9), now', la', lh', ls') := by
  refine solo (fun n (t : Int32 × Int32 × AI × AI × AI × AI) => fX6_forces_L14 st (nI s) (fun v4 v5 now_6 landed_7 landedIn_8 stepped_9 => some (v5, now_6, landed_7, landedIn_8, stepped_9)) n t.1 t.2.1 t.2.2.1 t.2.2.2.1 t.2.2.2.2.1 t.2.2.2.2.2) (fun i t => 1 ≤ i ∧ t.1 = nI i ∧ t.2.1 = nI (bs (fun v => decide (1 ≤ v) && soB K s 3 v) i)) (fun x => ∃ now' la' lh' ls', x = some (nI (soM K s 3 1 9), now', la', lh', ls')) 10 ?_ ?_ 9 1 F (nI 1, nI 0, now, la, lh, ls) (by omega) (by omega) ⟨by omega, rfl, by rw [bs_z (fun j hj => by simp; omega)]⟩
  · rintro i ⟨x1, x2, now, la, lh, ls⟩ n hi ⟨e0, e1, e2⟩ ih
    simp only at e1 e2 ⊢
    subst e1 e2
    obtain ⟨n', la', lh', ls', k1, _⟩ := m_isSo now la lh ls hK hm hs (show 3 < 5 by omega) (ok3 e0 (show i ≤ 9 by omega))
    rw [show tvk 3 i = i from rfl] at k1
    have next := ih (nI (i + 1), nI (bs (fun v => decide (1 ≤ v) && soB K s 3 v) (i + 1)), n', la', lh', ls') ⟨by omega, rfl, rfl⟩
    rw [bs] at next
    rw [fX6_forces_L14]
    cases eb : soB K s 3 i with
    | true =>
      rw [eb] at k1
      rw [if_pos (by simp [eb, e0])] at next
      simp (disch := omega) only [nm_q, bd1_some, bd2_some, bd3_some, bd4_some, bd5_some, bd6_some, bd7_some, bd8_some, bd9_some, bd10_some, bd11_some, bd1_ite, ↓reduceIte, gd_nI, gb_nI, gb_ite, li, liL, nI_add, nI_1, pk_sub, pk_mul, pk_div, nI_clamp, nI_eq, nI_leI, nI_ltI, nI_eqn, nI_neq, nI_nn, nI_len, nI_ltn, ngI_le, ngI_lt, nng, sm10, sm8, shr_n, shl_n, and_1, fa_or, leT, leF, ltT, ltF, eqT, eqF, k1, tt_i, shl_1, shl_0, Nat.zero_mul, Nat.or_zero, Nat.one_mul, Nat.add_zero, flag_1, flag_0]
      exact next
    | false =>
      rw [eb] at k1
      rw [if_neg (by simp [eb]), or_0] at next
      simp (disch := omega) only [nm_q, bd1_some, bd2_some, bd3_some, bd4_some, bd5_some, bd6_some, bd7_some, bd8_some, bd9_some, bd10_some, bd11_some, bd1_ite, ↓reduceIte, gd_nI, gb_nI, gb_ite, li, liL, nI_add, nI_1, pk_sub, pk_mul, pk_div, nI_clamp, nI_eq, nI_leI, nI_ltI, nI_eqn, nI_neq, nI_nn, nI_len, nI_ltn, ngI_le, ngI_lt, nng, sm10, sm8, shr_n, shl_n, and_1, fa_or, leT, leF, ltT, ltF, eqT, eqF, k1, ff_i, shl_1, shl_0, Nat.zero_mul, Nat.or_zero, Nat.one_mul, Nat.add_zero, flag_1, flag_0]
      exact next
  · rintro ⟨x1, x2, now, la, lh, ls⟩ n ⟨e0, e1, e2⟩
    simp only at e1 e2 ⊢
    subst e1 e2
    rw [fX6_forces_L14]
    simp (disch := omega) only [nm_q, bd1_some, bd2_some, bd3_some, bd4_some, bd5_some, bd6_some, bd7_some, bd8_some, bd9_some, bd10_some, bd11_some, bd1_ite, ↓reduceIte, gd_nI, gb_nI, gb_ite, li, liL, nI_add, nI_1, pk_sub, pk_mul, pk_div, nI_clamp, nI_eq, nI_leI, nI_ltI, nI_eqn, nI_neq, nI_nn, nI_len, nI_ltn, ngI_le, ngI_lt, nng, sm10, sm8, shr_n, shl_n, and_1, fa_or, leT, leF, ltT, ltF, eqT, eqF]
    exact ⟨_, _, _, _, rfl⟩
theorem ev_kinds (v : VT) (rd : RT) (dr : CT) (nw : CT) (tr : CT) (da : DT) (i0 : CT) (i1 : CT) (s0 : ST) (s1 : ST) (s2 : ST) (s3 : ST) (st : AI) (now : AI) (isKept : AI) (hearers : Int32) (draft : AI) (dHearers : Int32) (dWalls : Int32) (toldWinds : Int32) (tape : AI) (taped : Int32) (pos : Int32) (frm : Int32) (sort : Int32) (value : Int32) (fault : Int32) (wrongAt : Int32) (landed : AI) (landedIn : AI) (stepped : AI) (isThere : AI) (isAt : AI) (isNext : AI) (landSum : Int64) (heardSum : Int64) (allWays : Int64) (ways : AI) (drawn : AI) (lanes : AI) (sizes : AI) (cells : AI) (torn : Int32) (before : AI) (hR : Rel v rd nw i0 i1 s0 s1 s2 s3 st isKept hearers tape taped fault lanes sizes cells torn) (p1 : Int32) : ∃ (res : Int32) (tr_x : CT) (da_x : DT) (now_x : AI) (landed_x : AI) (landedIn_x : AI) (stepped_x : AI), fX5_kinds p1 v nw tr da = some (res, tr_x, da_x) ∧ fX6_kinds p1 st now landed landedIn stepped = some (res, now_x, landed_x, landedIn_x, stepped_x) ∧ (Rel v rd nw i0 i1 s0 s1 s2 s3 st isKept hearers tape taped fault lanes sizes cells torn) := by
  have hR0 := hR
  obtain ⟨⟨K, hK, hc, hm⟩, r0, r1, rt, rf, q0, q1, q2, q3, rl⟩ := hR
  have hm0 := RCm0 hm
  have hN := WF_N hK
  rcases isSay hN hc.2.2.1 hm0.2.2.1 p1 with ⟨s, hs, rfl, f1, f2⟩ | ⟨f1, f2⟩
  · obtain ⟨F, hF⟩ : ∃ F, F = 4096 := ⟨_, rfl⟩
    obtain ⟨tr', da', e1⟩ := c_asSeen (k := 0) (a := 0) (b := 3) v tr da hK hc hs (by omega) (by omega) (by omega) (by omega) (fun v _ h => ok0 h)
    obtain ⟨n', la', lh', ls', e2⟩ := m_kinds now landed landedIn stepped hK hm hs F (by omega)
    refine ⟨nI (soM K s 0 0 3), tr', da', n', la', lh', ls', ?_, ?_, hR0⟩
    rotate_left
    · rw [fX6_kinds, f2, bd1_some, if_neg (show ¬ nI 1 = 0 from n10), ← hF]; exact e2
    · rw [fX5_kinds, f1, bd1_some, if_neg (show ¬ nI 1 = 0 from n10), show fX5_asSeenBy (nI s) 0 0 3 v nw tr da = _ from e1]; rfl
  · refine ⟨-nI 1, tr, da, now, landed, landedIn, stepped, ?_, ?_, hR0⟩
    · rw [fX5_kinds, f1]; rfl
    · rw [fX6_kinds, f2]; rfl
theorem ev_forces (v : VT) (rd : RT) (dr : CT) (nw : CT) (tr : CT) (da : DT) (i0 : CT) (i1 : CT) (s0 : ST) (s1 : ST) (s2 : ST) (s3 : ST) (st : AI) (now : AI) (isKept : AI) (hearers : Int32) (draft : AI) (dHearers : Int32) (dWalls : Int32) (toldWinds : Int32) (tape : AI) (taped : Int32) (pos : Int32) (frm : Int32) (sort : Int32) (value : Int32) (fault : Int32) (wrongAt : Int32) (landed : AI) (landedIn : AI) (stepped : AI) (isThere : AI) (isAt : AI) (isNext : AI) (landSum : Int64) (heardSum : Int64) (allWays : Int64) (ways : AI) (drawn : AI) (lanes : AI) (sizes : AI) (cells : AI) (torn : Int32) (before : AI) (hR : Rel v rd nw i0 i1 s0 s1 s2 s3 st isKept hearers tape taped fault lanes sizes cells torn) (p1 : Int32) : ∃ (res : Int32) (tr_x : CT) (da_x : DT) (now_x : AI) (landed_x : AI) (landedIn_x : AI) (stepped_x : AI), fX5_forces p1 v nw tr da = some (res, tr_x, da_x) ∧ fX6_forces p1 st now landed landedIn stepped = some (res, now_x, landed_x, landedIn_x, stepped_x) ∧ (Rel v rd nw i0 i1 s0 s1 s2 s3 st isKept hearers tape taped fault lanes sizes cells torn) := by
  have hR0 := hR
  obtain ⟨⟨K, hK, hc, hm⟩, r0, r1, rt, rf, q0, q1, q2, q3, rl⟩ := hR
  have hm0 := RCm0 hm
  have hN := WF_N hK
  rcases isSay hN hc.2.2.1 hm0.2.2.1 p1 with ⟨s, hs, rfl, f1, f2⟩ | ⟨f1, f2⟩
  · obtain ⟨F, hF⟩ : ∃ F, F = 4096 := ⟨_, rfl⟩
    obtain ⟨tr', da', e1⟩ := c_asSeen (k := 3) (a := 1) (b := 9) v tr da hK hc hs (by omega) (by omega) (by omega) (by omega) (fun v h1 h => ok3 h1 h)
    obtain ⟨n', la', lh', ls', e2⟩ := m_forces now landed landedIn stepped hK hm hs F (by omega)
    refine ⟨nI (soM K s 3 1 9), tr', da', n', la', lh', ls', ?_, ?_, hR0⟩
    rotate_left
    · rw [fX6_forces, f2, bd1_some, if_neg (show ¬ nI 1 = 0 from n10), ← hF]; exact e2
    · rw [fX5_forces, f1, bd1_some, if_neg (show ¬ nI 1 = 0 from n10), show fX5_asSeenBy (nI s) 3 1 9 v nw tr da = _ from e1]; rfl
  · refine ⟨-nI 1, tr, da, now, landed, landedIn, stepped, ?_, ?_, hR0⟩
    · rw [fX5_forces, f1]; rfl
    · rw [fX6_forces, f2]; rfl
