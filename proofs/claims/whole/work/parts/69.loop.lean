-- loops: one side alone, or both in step
theorem solo {σ ρ : Type} (L : Nat → σ → ρ) (I : Nat → σ → Prop) (P : ρ → Prop) (N : Nat) (hs : ∀ i s n, i < N → I i s → (∀ s', I (i + 1) s' → P (L n s')) → P (L (n + 1) s)) (he : ∀ s n, I N s → P (L (n + 1) s)) : ∀ c i n s, i + c = N → c < n → I i s → P (L n s) := by
  intro c
  induction c with
  | zero =>
    intro i n s hi hn h
    obtain ⟨n, rfl⟩ : ∃ m, n = m + 1 := ⟨n - 1, by omega⟩
    obtain rfl : i = N := by omega
    exact he s n h
  | succ c ih =>
    intro i n s hi hn h
    obtain ⟨n, rfl⟩ : ∃ m, n = m + 1 := ⟨n - 1, by omega⟩
    exact hs i s n (by omega) h (fun s' h' => ih (i + 1) n s' (by omega) (by omega) h')
theorem lock {σ τ ρ υ : Type} (L : Nat → σ → ρ) (M : Nat → τ → υ) (I : Nat → σ → τ → Prop) (P : ρ → υ → Prop) (N : Nat) (hs : ∀ i s t n m, i < N → I i s t → (∀ s' t', I (i + 1) s' t' → P (L n s') (M m t')) → P (L (n + 1) s) (M (m + 1) t)) (he : ∀ s t n m, I N s t → P (L (n + 1) s) (M (m + 1) t)) : ∀ c i n m s t, i + c = N → c < n → c < m → I i s t → P (L n s) (M m t) := by
  intro c
  induction c with
  | zero =>
    intro i n m s t hi hn hm h
    obtain ⟨n, rfl⟩ : ∃ k, n = k + 1 := ⟨n - 1, by omega⟩
    obtain ⟨m, rfl⟩ : ∃ k, m = k + 1 := ⟨m - 1, by omega⟩
    obtain rfl : i = N := by omega
    exact he s t n m h
  | succ c ih =>
    intro i n m s t hi hn hm h
    obtain ⟨n, rfl⟩ : ∃ k, n = k + 1 := ⟨n - 1, by omega⟩
    obtain ⟨m, rfl⟩ : ∃ k, m = k + 1 := ⟨m - 1, by omega⟩
    exact hs i s t n m (by omega) h (fun s' t' h' => ih (i + 1) n m s' t' (by omega) (by omega) (by omega) h')
-- THE DAY of the reference
/-- what THE DAY has brought so far, in the reference's rows -/
def RDm (K : KT) (l : List Nat) (D : DK) (now la lh ls : AI) : Prop := RN K D.1 now ∧ ∀ s, s ∈ l → la s = nI (cell (D.2.1 s)) ∧ D.2.1 s < 64 ∧ lh s = nI (D.2.2.1 s) ∧ D.2.2.1 s ≤ 9 ∧ ls s = nI (D.2.2.2 s) ∧ D.2.2.2 s ≤ 10
theorem m_fly2 {K : KT} {l : List Nat} {D : DK} {now la lh ls : AI} {s : Nat} (h : RDm K l D now la lh ls) (hN : kN K ≤ 5) (hs : s < kN K) (ht : okT (kT K s)) (hwi : ∀ i, i < 10 → kWi K i ≤ 4) : ∃ now' la' lh' ls', fX6_flies (nI s) now la lh ls = some (now', la', lh', ls') ∧ RDm K (l ++ [s]) (stp (kT K) (kWi K) D s) now' la' lh' ls' := by
  obtain ⟨now', f1, f2⟩ := m_fly la lh ls h.1 hN hs ht hwi
  refine ⟨_, _, _, _, f1, f2, ?_⟩
  have hb := flyF_b ht D.1
  have hh := flyH_b (kT K s) D.1
  have hL := flyL_b ht D.1 (kWi K (flyH (kT K s) D.1))
  intro q hq
  unfold stp
  by_cases cq : q = s
  · subst cq
    simp only [pk_us, up_s]
    exact ⟨trivial, hL, trivial, hh, trivial, hb.2⟩
  · have hq2 : q ∈ l := by simpa [cq] using hq
    simp only [pk_un cq, up_n _ _ cq]
    exact h.2 q hq2
theorem m_in {K : KT} {W h : Nat} (hN : kN K ≤ 5) (hT : ∀ s, s < kN K → okT (kT K s)) (hwi : ∀ i, i < 10 → kWi K i ≤ 4) (hh : h < 10) (P : Option (AI × AI × AI × AI) → Prop) (C : Int32 → AI → AI → AI → AI → Option (AI × AI × AI × AI)) (hC : ∀ now la lh ls, RDm K (ordU (kN K) (kT K) (h + 1)) (dayL (kT K) (kWi K) (ordU (kN K) (kT K) (h + 1)) W) now la lh ls → P (C (nI (kN K)) now la lh ls)) (F : Nat) (hF : kN K < F) (now la lh ls : AI) (hR : RDm K (ordU (kN K) (kT K) h) (dayL (kT K) (kWi K) (ordU (kN K) (kT K) h) W) now la lh ls) : P (fX6_dayGoes_L10 (nI h) C F (nI 0) now la lh ls) := by
  refine solo (fun n (s : Int32 × AI × AI × AI × AI) => fX6_dayGoes_L10 (nI h) C n s.1 s.2.1 s.2.2.1 s.2.2.2.1 s.2.2.2.2) (fun i s => s.1 = nI i ∧ RDm K (ordP (kN K) (kT K) h i) (dayL (kT K) (kWi K) (ordP (kN K) (kT K) h i) W) s.2.1 s.2.2.1 s.2.2.2.1 s.2.2.2.2) P (kN K) ?_ ?_ (kN K) 0 F (nI 0, now, la, lh, ls) (by omega) hF ⟨rfl, by rw [ordP_0]; exact hR⟩
  · rintro i ⟨v, now, la, lh, ls⟩ n hi ⟨rfl, h1⟩ ih
    show P (fX6_dayGoes_L10 (nI h) C (n + 1) (nI i) now la lh ls)
    have h1 : RDm K (ordP (kN K) (kT K) h i) (dayL (kT K) (kWi K) (ordP (kN K) (kT K) h i) W) now la lh ls := h1
    have e43 := h1.1.2.2.1
    have e4 : fX6_of (nI i) (nI 4) now = some (nI (kT K i 4)) := m_of h1.1 hN hi (k := 4) (by omega)
    have h9 := (hT i hi).2.2.2.2.2
    rw [fX6_dayGoes_L10]
    by_cases ce : kT K i 4 = h
    · obtain ⟨now', la', lh', ls', f1, f2⟩ := m_fly2 h1 hN hi (hT i hi) hwi
      rw [← dayL_s, ← ordP_y ce] at f2
      have := ih (nI (i + 1), now', la', lh', ls') ⟨rfl, f2⟩
      simp (disch := omega) only [nm_q, bd1_some, bd2_some, bd3_some, bd4_some, bd5_some, bd6_some, bd7_some, bd8_some, bd9_some, bd10_some, bd11_some, bd1_ite, ↓reduceIte, gd_nI, gb_nI, gb_ite, li, liL, nI_add, nI_1, pk_sub, pk_mul, pk_div, nI_clamp, nI_eq, nI_leI, nI_ltI, nI_eqn, nI_neq, nI_nn, nI_len, nI_ltn, ngI_le, ngI_lt, nng, sm10, sm8, shr_n, shl_n, and_1, fa_or, leT, leF, ltT, ltF, eqT, eqF, e43, e4, f1]
      exact this
    · have := ih (nI (i + 1), now, la, lh, ls) ⟨rfl, by rw [ordP_n ce]; exact h1⟩
      simp (disch := omega) only [nm_q, bd1_some, bd2_some, bd3_some, bd4_some, bd5_some, bd6_some, bd7_some, bd8_some, bd9_some, bd10_some, bd11_some, bd1_ite, ↓reduceIte, gd_nI, gb_nI, gb_ite, li, liL, nI_add, nI_1, pk_sub, pk_mul, pk_div, nI_clamp, nI_eq, nI_leI, nI_ltI, nI_eqn, nI_neq, nI_nn, nI_len, nI_ltn, ngI_le, ngI_lt, nng, sm10, sm8, shr_n, shl_n, and_1, fa_or, leT, leF, ltT, ltF, eqT, eqF, e43, e4]
      exact this
  · rintro ⟨v, now, la, lh, ls⟩ n ⟨rfl, h1⟩
    show P (fX6_dayGoes_L10 (nI h) C (n + 1) (nI (kN K)) now la lh ls)
    have h1 : RDm K (ordU (kN K) (kT K) (h + 1)) (dayL (kT K) (kWi K) (ordU (kN K) (kT K) (h + 1)) W) now la lh ls := h1
    have e43 := h1.1.2.2.1
    rw [fX6_dayGoes_L10]
    simp (disch := omega) only [nm_q, bd1_some, bd2_some, bd3_some, bd4_some, bd5_some, bd6_some, bd7_some, bd8_some, bd9_some, bd10_some, bd11_some, bd1_ite, ↓reduceIte, gd_nI, gb_nI, gb_ite, li, liL, nI_add, nI_1, pk_sub, pk_mul, pk_div, nI_clamp, nI_eq, nI_leI, nI_ltI, nI_eqn, nI_neq, nI_nn, nI_len, nI_ltn, ngI_le, ngI_lt, nng, sm10, sm8, shr_n, shl_n, and_1, fa_or, leT, leF, ltT, ltF, eqT, eqF, e43]
    exact hC _ _ _ _ h1
def RMy (K : KT) (now la lh ls : AI) : Prop := RN K (dayK K).1 now ∧ ∀ s, s < kN K → la s = nI (cell ((dayK K).2.1 s)) ∧ (dayK K).2.1 s < 64 ∧ lh s = nI ((dayK K).2.2.1 s) ∧ (dayK K).2.2.1 s ≤ 9 ∧ ls s = nI ((dayK K).2.2.2 s) ∧ (dayK K).2.2.2 s ≤ 10
theorem m_day {K : KT} {now : AI} (la lh ls : AI) (hK : WFk K) (hR : RN K (kW K) now) : ∃ now' la' lh' ls', fX6_dayGoes now la lh ls = some (now', la', lh', ls') ∧ RMy K now' la' lh' ls' := by
  have hN := WF_N hK
  obtain ⟨F, hF⟩ : ∃ F, F = 4096 := ⟨_, rfl⟩
  rw [fX6_dayGoes, ← hF]
  refine solo (fun n (s : Int32 × AI × AI × AI × AI) => fX6_dayGoes_L2 (fun v1 now_2 landed_3 landedIn_4 stepped_5 => some (now_2, landed_3, landedIn_4, stepped_5)) n s.1 s.2.1 s.2.2.1 s.2.2.2.1 s.2.2.2.2) (fun i s => s.1 = nI i ∧ RDm K (ordU (kN K) (kT K) i) (dayL (kT K) (kWi K) (ordU (kN K) (kT K) i) (kW K)) s.2.1 s.2.2.1 s.2.2.2.1 s.2.2.2.2) (fun x => ∃ now' la' lh' ls', x = some (now', la', lh', ls') ∧ RMy K now' la' lh' ls') 10 ?_ ?_ 10 0 F (nI 0, now, la, lh, ls) (by omega) (by omega) ⟨rfl, hR, fun s hs => by simp [ordU] at hs⟩
  · rintro i ⟨v, now, la, lh, ls⟩ n hi ⟨rfl, h1⟩ ih
    show ∃ now' la' lh' ls', fX6_dayGoes_L2 _ (n + 1) (nI i) now la lh ls = some (now', la', lh', ls') ∧ RMy K now' la' lh' ls'
    obtain ⟨F2, hF2⟩ : ∃ F, F = 4096 := ⟨_, rfl⟩
    rw [fX6_dayGoes_L2, ← hF2]
    simp (disch := omega) only [nm_q, bd1_some, bd2_some, bd3_some, bd4_some, bd5_some, bd6_some, bd7_some, bd8_some, bd9_some, bd10_some, bd11_some, bd1_ite, ↓reduceIte, gd_nI, gb_nI, gb_ite, li, liL, nI_add, nI_1, pk_sub, pk_mul, pk_div, nI_clamp, nI_eq, nI_leI, nI_ltI, nI_eqn, nI_neq, nI_nn, nI_len, nI_ltn, ngI_le, ngI_lt, nng, sm10, sm8, shr_n, shl_n, and_1, fa_or, leT, leF, ltT, ltF, eqT, eqF]
    refine m_in (W := kW K) hN (fun s hs => WF_T hK hs) (fun i hi => WF_wi hK hi) hi (fun x => ∃ now' la' lh' ls', x = some (now', la', lh', ls') ∧ RMy K now' la' lh' ls') _ ?_ F2 (by omega) now la lh ls h1
    intro now la lh ls h2
    exact ih (nI (i + 1), now, la, lh, ls) ⟨rfl, h2⟩
  · rintro ⟨v, now, la, lh, ls⟩ n ⟨rfl, h1⟩
    show ∃ now' la' lh' ls', fX6_dayGoes_L2 _ (n + 1) (nI 10) now la lh ls = some (now', la', lh', ls') ∧ RMy K now' la' lh' ls'
    rw [fX6_dayGoes_L2]
    simp (disch := omega) only [nm_q, bd1_some, bd2_some, bd3_some, bd4_some, bd5_some, bd6_some, bd7_some, bd8_some, bd9_some, bd10_some, bd11_some, bd1_ite, ↓reduceIte, gd_nI, gb_nI, gb_ite, li, liL, nI_add, nI_1, pk_sub, pk_mul, pk_div, nI_clamp, nI_eq, nI_leI, nI_ltI, nI_eqn, nI_neq, nI_nn, nI_len, nI_ltn, ngI_le, ngI_lt, nng, sm10, sm8, shr_n, shl_n, and_1, fa_or, leT, leF, ltT, ltF, eqT, eqF]
    exact ⟨_, _, _, _, rfl, h1.1, fun s hs => h1.2 s ((ordL_mem (WF_9 hK)).mpr hs)⟩
