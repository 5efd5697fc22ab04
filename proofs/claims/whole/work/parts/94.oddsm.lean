-- winds by odds: the reference
def Km (K : KT) (m : Nat) : KT := setWi K (wB K (fun h => m.testBit h))
theorem WF_Km {K : KT} (hK : WFk K) (m : Nat) : WFk (Km K m) := by
  obtain ⟨a1, a2, a3, a4⟩ := hK
  refine ⟨a1, a2, fun h hh => ?_, a4⟩
  show wB K (fun h => m.testBit h) h ≤ 4
  unfold wB
  split
  · omega
  · exact a3 h hh
theorem wt_le {a b : Nat} (ha : a ≤ 10) (hb : b ≤ 10) (m : Nat) : ∀ k, wt a b k m ≤ 10 ^ k
  | 0 => Nat.le_refl _
  | k + 1 => by
    rw [wt, Nat.pow_succ]
    exact Nat.mul_le_mul (wt_le ha hb m k) (by split <;> assumption)
theorem m_winds {K : KT} {v m : Nat} {now : AI} (hv : v ≤ 10) (hm : m < 1024) (hN : kN K ≤ 5) (hH : kH K ≤ 4) (hR : RN K (kW K) now) (P : Option (AI × AI × AI × AI × Int64 × Int64 × Int64) → Prop) (C : Int32 → Int64 → AI → Option (AI × AI × AI × AI × Int64 × Int64 × Int64)) (hE : ∀ now, RN (Km K m) (kW K) now → P (C (nI 10) (lN (wt v (10 - v) 10 m)) now)) (F : Nat) (hF : 10 < F) : P (fX6_findOdds_L64 (nI v) (nI m) C F (nI 0) (lN 1) now) := by
  obtain ⟨r1, r2, r3, r4, r5⟩ := hR
  refine solo (fun n (x : Int32 × Int64 × AI) => fX6_findOdds_L64 (nI v) (nI m) C n x.1 x.2.1 x.2.2) (fun i x => x.1 = nI i ∧ x.2.1 = lN (wt v (10 - v) i m) ∧ WB (kW K) x.2.2 ∧ (∀ h, h < 10 → x.2.2 (8 + h) = nI (if h < i then wB K (fun h => m.testBit h) h else kWi K h)) ∧ x.2.2 43 = nI (kN K) ∧ (∀ s, s < kN K → ∀ k, k < 5 → x.2.2 (18 + 5 * s + k) = nI (tv (kT K s) k)) ∧ (∀ h, h < kH K → x.2.2 (44 + h) = nI (cell (kHp K h)))) P 10 ?_ ?_ 10 0 F (nI 0, lN 1, now) (by omega) hF ⟨rfl, rfl, r1, fun h hh => by rw [if_neg (by omega)]; exact r2 h hh, r3, r4, r5⟩
  · rintro i ⟨x1, x2, now⟩ n hi ⟨e1, e2, e3, e4, e5, e6, e7⟩ ih
    simp only at e1 e2 e3 e4 e5 e6 e7 ⊢
    subst e1 e2
    have ei := e4 i hi
    rw [if_neg (Nat.lt_irrefl i)] at ei
    rw [fX6_findOdds_L64]
    have keep : ∀ x : Int32, x = nI (wB K (fun h => m.testBit h) i) → ∀ w : Nat, w = wt v (10 - v) (i + 1) m → P (fX6_findOdds_L64 (nI v) (nI m) C n (nI (i + 1)) (lN w) (upd now (8 + i) x)) := by
      intro x hx w hw
      subst hw
      refine ih (nI (i + 1), _, upd now (8 + i) x) ⟨rfl, rfl, fun y hy => ?_, fun h hh => ?_, ?_, fun s hs k hk => ?_, fun h hh => ?_⟩
      · show upd now (8 + i) x y = _
        rw [pk_un (by omega)]; exact e3 y hy
      · show upd now (8 + i) x (8 + h) = _
        by_cases c : h = i
        · rw [c, pk_us, if_pos (by omega)]; exact hx
        · rw [pk_un (by omega), e4 h hh]
          by_cases d : h < i
          · rw [if_pos d, if_pos (by omega)]
          · rw [if_neg d, if_neg (by omega)]
      · show upd now (8 + i) x 43 = _
        rw [pk_un (by omega)]; exact e5
      · show upd now (8 + i) x (18 + 5 * s + k) = _
        rw [pk_un (by omega)]; exact e6 s hs k hk
      · show upd now (8 + i) x (44 + h) = _
        rw [pk_un (by omega)]; exact e7 h hh
    cases eb : m.testBit i with
    | true =>
      have z := (tb1 m i).mpr eb
      simp (disch := omega) only [nm_q, bd1_some, bd2_some, bd3_some, bd4_some, bd5_some, bd6_some, bd7_some, bd8_some, bd9_some, bd10_some, bd11_some, bd1_ite, ↓reduceIte, gd_nI, gb_nI, gb_ite, li, liL, nI_add, nI_1, pk_sub, pk_mul, pk_div, nI_clamp, nI_eq, nI_leI, nI_ltI, nI_eqn, nI_neq, nI_nn, nI_len, nI_ltn, ngI_le, ngI_lt, nng, sm10, sm8, shr_n, shl_n, and_1, fa_or, leT, leF, ltT, ltF, eqT, eqF, z, nI_l, lN_mul]
      exact keep _ (by unfold wB; simp [eb]) _ (by rw [wt, if_pos eb])
    | false =>
      have z := (tb0 m i).mpr eb
      simp (disch := omega) only [nm_q, bd1_some, bd2_some, bd3_some, bd4_some, bd5_some, bd6_some, bd7_some, bd8_some, bd9_some, bd10_some, bd11_some, bd1_ite, ↓reduceIte, gd_nI, gb_nI, gb_ite, li, liL, nI_add, nI_1, pk_sub, pk_mul, pk_div, nI_clamp, nI_eq, nI_leI, nI_ltI, nI_eqn, nI_neq, nI_nn, nI_len, nI_ltn, ngI_le, ngI_lt, nng, sm10, sm8, shr_n, shl_n, and_1, fa_or, leT, leF, ltT, ltF, eqT, eqF, z, nI_l, lN_mul, ei]
      exact keep _ (by unfold wB; simp [eb]) _ (by rw [wt, if_neg (by rw [eb]; decide)])
  · rintro ⟨x1, x2, now⟩ n ⟨e1, e2, e3, e4, e5, e6, e7⟩
    simp only at e1 e2 e3 e4 e5 e6 e7 ⊢
    subst e1 e2
    rw [fX6_findOdds_L64]
    simp (disch := omega) only [nm_q, bd1_some, bd2_some, bd3_some, bd4_some, bd5_some, bd6_some, bd7_some, bd8_some, bd9_some, bd10_some, bd11_some, bd1_ite, ↓reduceIte, gd_nI, gb_nI, gb_ite, li, liL, nI_add, nI_1, pk_sub, pk_mul, pk_div, nI_clamp, nI_eq, nI_leI, nI_ltI, nI_eqn, nI_neq, nI_nn, nI_len, nI_ltn, ngI_le, ngI_lt, nng, sm10, sm8, shr_n, shl_n, and_1, fa_or, leT, leF, ltT, ltF, eqT, eqF]
    refine hE now ⟨e3, fun h hh => ?_, e5, e6, e7⟩
    rw [e4 h hh, if_pos hh]
    rfl
theorem cmp_pos {w : Nat} (hw : w < 2 ^ 63) : (lg_cmp (lN w) (lN 0) ≤ nI 0) = (w = 0) := by
  unfold lg_cmp
  have e1 : (lN w > lN 0) = (0 < w) := propext (pk_lLT (by omega) hw)
  have e2 : (lN w = lN 0) = (w = 0) := propext (pk_lEQ hw (by omega))
  by_cases c : w = 0
  · subst c
    simp only [gt_iff_lt, e1, Nat.lt_irrefl, if_false, if_true]
    exact propext ⟨fun _ => trivial, fun _ => by decide⟩
  · have c1 : 0 < w := by omega
    rw [if_pos (by rw [e1]; exact c1)]
    exact propext ⟨fun h => absurd h (by decide), fun h => absurd h c⟩
def lTerm (K : KT) (v s q m : Nat) : Nat := wt v (10 - v) 10 m * (if (atB (Km K m) q).testBit s then 1 else 0)
def hTerm (K : KT) (v m : Nat) : Nat := wt v (10 - v) 10 m * hrd (Km K m)
theorem m_oddsL {K : KT} {st : AI} {h : Int32} {v s q : Nat} (hK : WFk K) (hm : RCm K st 0 h) (hv : v ≤ 10) (hs : s < 5) (hq : q < 64) (P : Option (AI × AI × AI × AI × Int64 × Int64 × Int64) → Prop) (C : Int32 → AI → AI → AI → AI → Int64 → Int64 → Option (AI × AI × AI × AI × Int64 × Int64 × Int64)) (hE : ∀ now la lh ls, P (C (nI 1024) now la lh ls (lN (fb_sm (lTerm K v s q) 1024)) (lN (fb_sm (hTerm K v) 1024)))) (F : Nat) (hF : 1024 < F) (now la lh ls : AI) : P (fX6_findOdds_L46 st h (nI v) (nI s) (nI (cell q)) C F 0 now la lh ls 0 0) := by
  have hN := WF_N hK
  have hH := WF_H hK
  have hp := WF_Hp hK
  have e5 := (RCm0 hm).2.2.2.2.1
  refine solo (fun n (x : Int32 × AI × AI × AI × AI × Int64 × Int64) => fX6_findOdds_L46 st h (nI v) (nI s) (nI (cell q)) C n x.1 x.2.1 x.2.2.1 x.2.2.2.1 x.2.2.2.2.1 x.2.2.2.2.2.1 x.2.2.2.2.2.2) (fun i x => x.1 = nI i ∧ x.2.2.2.2.2.1 = lN (fb_sm (lTerm K v s q) i) ∧ x.2.2.2.2.2.2 = lN (fb_sm (hTerm K v) i)) P 1024 ?_ ?_ 1024 0 F (0, now, la, lh, ls, 0, 0) (by omega) hF ⟨rfl, rfl, rfl⟩
  · rintro i ⟨x1, now, la, lh, ls, x6, x7⟩ n hi ⟨e1, e2, e3⟩ ih
    simp only at e1 e2 e3 ⊢
    subst e1 e2 e3
    have hw := wt_le hv (show 10 - v ≤ 10 by omega) i 10
    have hn := RN_starts now hK hm
    have next := fun a b c d => ih (nI (i + 1), a, b, c, d, lN (fb_sm (lTerm K v s q) (i + 1)), lN (fb_sm (hTerm K v) (i + 1))) ⟨rfl, rfl, rfl⟩
    simp only [fb_sm] at next
    obtain ⟨G, hG⟩ : ∃ G, G = 4096 := ⟨_, rfl⟩
    rw [fX6_findOdds_L46, ← hG]
    simp (disch := omega) only [nm_q, bd1_some, bd2_some, bd3_some, bd4_some, bd5_some, bd6_some, bd7_some, bd8_some, bd9_some, bd10_some, bd11_some, bd1_ite, ↓reduceIte, gd_nI, gb_nI, gb_ite, li, liL, nI_add, nI_1, pk_sub, pk_mul, pk_div, nI_clamp, nI_eq, nI_leI, nI_ltI, nI_eqn, nI_neq, nI_nn, nI_len, nI_ltn, ngI_le, ngI_lt, nng, sm10, sm8, shr_n, shl_n, and_1, fa_or, leT, leF, ltT, ltF, eqT, eqF, m_starts]
    refine m_winds hv hi hN hH hn P _ ?_ G (by omega)
    intro now hr
    have z1 : (lg_cmp (lN (wt v (10 - v) 10 i)) (lN 0) ≤ nI 0) = (wt v (10 - v) 10 i = 0) := cmp_pos (by omega)
    by_cases c : wt v (10 - v) 10 i = 0
    · have n1 : lTerm K v s q i = 0 := by unfold lTerm; rw [c, Nat.zero_mul]
      have n2 : hTerm K v i = 0 := by unfold hTerm; rw [c, Nat.zero_mul]
      rw [n1, n2] at next
      rw [if_pos (by rw [z1]; exact c)]
      exact next now la lh ls
    · rw [if_neg (by rw [z1]; exact c)]
      have hWF := WF_Km hK i
      obtain ⟨n', la', lh', ls', k1, k2⟩ := m_day la lh ls hWF hr
      have x1 := m_landed k2 hN hq
      have x2 := m_heard (hearers := h) k2 e5 hN hH hp
      have hb := atB_lt (K := Km K i) q hN
      have hh : hrd (Km K i) ≤ 5 := Nat.le_trans (ct_le _ _) hN
      cases eb : (atB (Km K i) q).testBit s with
      | true =>
        have z := (tb1 (atB (Km K i) q) s).mpr eb
        have n1 : lTerm K v s q i = wt v (10 - v) 10 i := by unfold lTerm; rw [if_pos eb, Nat.mul_one]
        have n2 : hTerm K v i = wt v (10 - v) 10 i * hrd (Km K i) := rfl
        rw [n1, n2] at next
        simp (disch := omega) only [nm_q, bd1_some, bd2_some, bd3_some, bd4_some, bd5_some, bd6_some, bd7_some, bd8_some, bd9_some, bd10_some, bd11_some, bd1_ite, ↓reduceIte, gd_nI, gb_nI, gb_ite, li, liL, nI_add, nI_1, pk_sub, pk_mul, pk_div, nI_clamp, nI_eq, nI_leI, nI_ltI, nI_eqn, nI_neq, nI_nn, nI_len, nI_ltn, ngI_le, ngI_lt, nng, sm10, sm8, shr_n, shl_n, and_1, fa_or, leT, leF, ltT, ltF, eqT, eqF, k1, x1, x2, z, nI_l, lN_mul, lN_add]
        exact next n' la' lh' ls'
      | false =>
        have z := (tb0 (atB (Km K i) q) s).mpr eb
        have n1 : lTerm K v s q i = 0 := by unfold lTerm; rw [if_neg (by rw [eb]; decide), Nat.mul_zero]
        have n2 : hTerm K v i = wt v (10 - v) 10 i * hrd (Km K i) := rfl
        rw [n1, n2] at next
        simp (disch := omega) only [nm_q, bd1_some, bd2_some, bd3_some, bd4_some, bd5_some, bd6_some, bd7_some, bd8_some, bd9_some, bd10_some, bd11_some, bd1_ite, ↓reduceIte, gd_nI, gb_nI, gb_ite, li, liL, nI_add, nI_1, pk_sub, pk_mul, pk_div, nI_clamp, nI_eq, nI_leI, nI_ltI, nI_eqn, nI_neq, nI_nn, nI_len, nI_ltn, ngI_le, ngI_lt, nng, sm10, sm8, shr_n, shl_n, and_1, fa_or, leT, leF, ltT, ltF, eqT, eqF, k1, x1, x2, z, nI_l, lN_mul, lN_add]
        exact next n' la' lh' ls'
  · rintro ⟨x1, now, la, lh, ls, x6, x7⟩ n ⟨e1, e2, e3⟩
    simp only at e1 e2 e3 ⊢
    subst e1 e2 e3
    rw [fX6_findOdds_L46]
    simp (disch := omega) only [nm_q, bd1_some, bd2_some, bd3_some, bd4_some, bd5_some, bd6_some, bd7_some, bd8_some, bd9_some, bd10_some, bd11_some, bd1_ite, ↓reduceIte, gd_nI, gb_nI, gb_ite, li, liL, nI_add, nI_1, pk_sub, pk_mul, pk_div, nI_clamp, nI_eq, nI_leI, nI_ltI, nI_eqn, nI_neq, nI_nn, nI_len, nI_ltn, ngI_le, ngI_lt, nng, sm10, sm8, shr_n, shl_n, and_1, fa_or, leT, leF, ltT, ltF, eqT, eqF]
    exact hE _ _ _ _
theorem m_all (C : Int32 → Int64 → Option (AI × AI × AI × AI × Int64 × Int64 × Int64)) (F : Nat) (hF : 10 < F) : fX6_findOdds_L18 C F 0 1 = C (nI 10) (lN (10 ^ 10)) := by
  refine solo (fun n (t : Int32 × Int64) => fX6_findOdds_L18 C n t.1 t.2) (fun i t => t = (nI i, lN (10 ^ i))) (fun x => x = C (nI 10) (lN (10 ^ 10))) 10 ?_ ?_ 10 0 F (0, 1) (by omega) hF rfl
  · rintro i t n hi rfl ih
    have := ih _ rfl
    rw [Nat.pow_succ] at this
    show fX6_findOdds_L18 C (n + 1) (nI i) (lN (10 ^ i)) = _
    rw [fX6_findOdds_L18]
    simp (disch := omega) only [nm_q, bd1_some, bd2_some, bd3_some, bd4_some, bd5_some, bd6_some, bd7_some, bd8_some, bd9_some, bd10_some, bd11_some, bd1_ite, ↓reduceIte, gd_nI, gb_nI, gb_ite, li, liL, nI_add, nI_1, pk_sub, pk_mul, pk_div, nI_clamp, nI_eq, nI_leI, nI_ltI, nI_eqn, nI_neq, nI_nn, nI_len, nI_ltn, ngI_le, ngI_lt, nng, sm10, sm8, shr_n, shl_n, and_1, fa_or, leT, leF, ltT, ltF, eqT, eqF, lN_mul]
    exact this
  · rintro t n rfl
    show fX6_findOdds_L18 C (n + 1) (nI 10) (lN (10 ^ 10)) = _
    rw [fX6_findOdds_L18]
    simp (disch := omega) only [nm_q, bd1_some, bd2_some, bd3_some, bd4_some, bd5_some, bd6_some, bd7_some, bd8_some, bd9_some, bd10_some, bd11_some, bd1_ite, ↓reduceIte, gd_nI, gb_nI, gb_ite, li, liL, nI_add, nI_1, pk_sub, pk_mul, pk_div, nI_clamp, nI_eq, nI_leI, nI_ltI, nI_eqn, nI_neq, nI_nn, nI_len, nI_ltn, ngI_le, ngI_lt, nng, sm10, sm8, shr_n, shl_n, and_1, fa_or, leT, leF, ltT, ltF, eqT, eqF]
theorem m_odds {K : KT} {st : AI} {h : Int32} {v s q : Nat} (hK : WFk K) (hm : RCm K st 0 h) (hv : v ≤ 10) (hs : s < 5) (hq : q < 64) (now la lh ls : AI) (a b c : Int64) : ∃ now' la' lh' ls', fX6_findOdds (nI v) (nI s) (nI (cell q)) st now h la lh ls a b c = some (now', la', lh', ls', lN (fb_sm (lTerm K v s q) 1024), lN (fb_sm (hTerm K v) 1024), lN (10 ^ 10)) := by
  obtain ⟨F, hF⟩ : ∃ F, F = 4096 := ⟨_, rfl⟩
  rw [fX6_findOdds, ← hF, m_all _ F (by omega)]
  exact m_oddsL hK hm hv hs hq (fun x => ∃ now' la' lh' ls', x = some (now', la', lh', ls', lN (fb_sm (lTerm K v s q) 1024), lN (fb_sm (hTerm K v) 1024), lN (10 ^ 10))) _ (fun now la lh ls => ⟨_, _, _, _, rfl⟩) F (by omega) now la lh ls
-- both sums
theorem ordU_nd (N : Nat) (T : Nat → Nat → Nat) : ∀ h, (ordU N T h).Nodup
  | 0 => List.nodup_nil
  | h + 1 => by
    rw [ordU, List.nodup_append]
    refine ⟨ordU_nd N T h, List.Pairwise.filter _ List.nodup_range, fun a ha b hb e => ?_⟩
    subst e
    rw [ordU_mem] at ha
    simp at hb
    omega
theorem wt_11 (m : Nat) : ∀ k, wt 1 1 k m = 1
  | 0 => rfl
  | k + 1 => by rw [wt, wt_11 m k, ite_self]
theorem sums {K : KT} {v : Nat} (hK : WFk K) (hv : v ≤ 10) (f : DK → Nat) : fb_sm (fun m => wt v (10 - v) 10 m * f (dayK (Km K m))) 1024 = 100000 * cSum K v f (2 ^ kN K) := by
  have hN := WF_N hK
  have hlen := ordL_len (WF_9 hK)
  have e1 : fb_sm (fun m => wt v (10 - v) 10 m * f (dayK (Km K m))) 1024 = SB v (10 - v) 10 (fun β => f ((ordL (kN K) (kT K)).foldl (stp (kT K) (wB K (ov (fun _ => none) β))) (day0 (kW K)))) (fun _ => false) := by
    rw [← SB_sum]
    refine fb_sm_cong (n := 1024) fun m hm => ?_
    have : (fun h => if h < 10 then m.testBit h else false) = fun h => m.testBit h := funext fun h => by
      by_cases c : h < 10
      · rw [if_pos c]
      · rw [if_neg c, Nat.testBit_lt_two_pow (Nat.lt_of_lt_of_le hm (Nat.pow_le_pow_right (n := 2) (i := 10) (by omega) (by omega)))]
    rw [this]
    rfl
  have e2 : cSum K v f (2 ^ kN K) = SB 1 1 (kN K) (fun c => ((ordL (kN K) (kT K)).foldl (ost K v c) (ot0 K)).1 * f ((ordL (kN K) (kT K)).foldl (ost K v c) (ot0 K)).2.2) (fun _ => false) := by
    rw [← SB_sum, cSum]
    refine fb_sm_cong fun m hm => ?_
    rw [wt_11, Nat.one_mul]
    have : (ordL (kN K) (kT K)).foldl (ost K v (fun h => if h < kN K then m.testBit h else false)) (ot0 K) = otm K v m := ost_cong fun u hu => if_pos ((ordL_mem (WF_9 hK)).mp hu)
    rw [this]
  have g1 := GG_ref K v hv f (fun _ => false) (ordL (kN K) (kT K)) (fun _ => none) (day0 (kW K))
  have g2 := GG_cls K v (kN K) f (fun _ => false) (ordL (kN K) (kT K)) (fun _ => none) (day0 (kW K)) (10 ^ (5 - kN K)) (ordU_nd _ _ _) (fun s hs => (ordL_mem (WF_9 hK)).mp hs)
  rw [hlen] at g1 g2
  have e3 : 10 ^ kN K * 10 ^ (5 - kN K) = 100000 := by
    rw [← Nat.pow_add, show kN K + (5 - kN K) = 5 by omega]
  rw [e3] at g2
  have g3 := Nat.eq_of_mul_eq_mul_left (Nat.two_pow_pos (kN K)) g2
  rw [show ((100000, fun _ => none, day0 (kW K)) : OS) = ot0 K from rfl, ← e2] at g3
  rw [← e1] at g1
  refine Nat.eq_of_mul_eq_mul_left (Nat.pow_pos (n := kN K) (show 0 < 10 by omega)) ?_
  rw [g1, g3, Nat.mul_left_comm, ← Nat.mul_assoc (10 ^ kN K), e3, ← Nat.mul_assoc]
