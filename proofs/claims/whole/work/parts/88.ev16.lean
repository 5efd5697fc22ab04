-- drift
theorem b_32767 (i : Nat) : bt 32767 i = decide (i < 15) := by
  by_cases c : i < 32
  · have : ∀ i, i < 32 → bt 32767 i = decide (i < 15) := by decide +kernel
    exact this i c
  · rw [b_big (by omega)]
    have : ¬ i < 15 := by omega
    simp [this]
theorem got_eq (x : Int32) : (x.toUInt32 >>> ((16 : Int32).toUInt32 &&& Int32.toUInt32 31)).toInt32 &&& 32767 = (x >>> ((16 : Int32) &&& 31)) &&& 32767 := by
  refine b_ext fun i hi => ?_
  rw [b_and, b_and, b_32767]
  by_cases c : i < 15
  · rw [show (16 : Int32) = nI 16 from rfl, b_ushr 16 (by omega), b_sshr 16 (by omega) x hi, if_pos (by omega)]
  · simp [c]
theorem got_nI (x : Int32) : ∃ g, g < 32768 ∧ x &&& 32767 = nI g := by
  obtain ⟨n, _, rfl⟩ := wb_of32 x
  refine ⟨n % 2 ^ 15, Nat.mod_lt _ (by decide), ?_⟩
  rw [show (32767 : Int32) = nI (2 ^ 15 - 1) from rfl, fa_mask]
/-- what is drawn: which saying, its WAY, its FORCE -/
def drw (K : KT) (g : Nat) : KT := setT (setT K (g % kN K) 2 (g / 8 % 4)) (g % kN K) 3 (1 + g / 32 % 9)
/-- a coast that differs from K in WAYS and FORCES alone -/
def LikeK (K K' : KT) : Prop := K'.1 = K.1 ∧ K'.2.1 = K.2.1 ∧ K'.2.2.1 = K.2.2.1 ∧ K'.2.2.2.2 = K.2.2.2.2 ∧ ∀ u k, k ≠ 2 → k ≠ 3 → kT K' u k = kT K u k
theorem like_drw {K K' : KT} (h : LikeK K K') (g : Nat) : LikeK K (drw K' g) := by
  obtain ⟨h1, h2, h3, h4, h5⟩ := h
  refine ⟨h1, h2, h3, h4, fun u k a b => ?_⟩
  unfold drw
  rw [set_T, set_T, if_neg (fun q => b q.2), if_neg (fun q => a q.2)]
  exact h5 u k a b
def DR (K' : KT) (drawn : AI) : Prop := ∀ u, u < kN K' → drawn (2 * u) = nI (kT K' u 2) ∧ drawn (2 * u + 1) = nI (kT K' u 3)
theorem DR_drw {K' : KT} {drawn : AI} (g : Nat) (h : DR K' drawn) : DR (drw K' g) (upd (upd drawn (2 * (g % kN K')) (nI (g / 8 % 4))) (2 * (g % kN K') + 1) (nI (1 + g / 32 % 9))) := by
  intro u hu
  have hu2 : u < kN K' := hu
  unfold drw
  rw [set_T, set_T, set_T, set_T]
  by_cases c : u = g % kN K'
  · subst c
    rw [pk_un (by omega), pk_us, pk_us]
    simp
  · rw [pk_un (by omega), pk_un (by omega), pk_un (by omega), pk_un (by omega), if_neg (fun q => c q.1), if_neg (fun q => c q.1), if_neg (fun q => c q.1), if_neg (fun q => c q.1)]
    exact h u hu2
theorem WF_drw {K' : KT} (h : WFk K') (h0 : 0 < kN K') (g : Nat) : WFk (drw K' g) := by
  have hm := Nat.mod_lt g h0
  have h4 := Nat.mod_lt (g / 8) (show 4 > 0 by omega)
  have h9 := Nat.mod_lt (g / 32) (show 9 > 0 by omega)
  exact WF_set (WF_set h hm (ok2 (by omega))) hm (ok3 (by omega) (by omega))
theorem m_drawn0 {K : KT} {st : AI} {h : Int32} (hK : WFk K) (hm : RCm K st 0 h) (drawn : AI) (P : Option (Int32 × AI × AI × AI × AI × AI) → Prop) (C : Int32 → AI → Option (Int32 × AI × AI × AI × AI × AI)) (hC : ∀ d, DR K d → P (C (nI (kN K)) d)) (F : Nat) (hF : 6 < F) : P (fX6_drift_L43 st C F 0 drawn) := by
  have hN := WF_N hK
  obtain ⟨_, _, e43, e4, _⟩ := RCm0 hm
  refine solo (fun n (t : Int32 × AI) => fX6_drift_L43 st C n t.1 t.2) (fun i t => t.1 = nI i ∧ ∀ u, u < i → t.2 (2 * u) = nI (kT K u 2) ∧ t.2 (2 * u + 1) = nI (kT K u 3)) P (kN K) ?_ ?_ (kN K) 0 F (nI 0, drawn) (by omega) (by omega) ⟨rfl, fun u hu => by omega⟩
  · rintro i ⟨x1, d⟩ n hi ⟨e1, e2⟩ ih
    simp only at e1 e2 ⊢
    subst e1
    have a1 : st (18 + 5 * i + 2) = nI (kT K i 2) := e4 i hi 2 (by omega)
    have a2 : st (18 + 5 * i + 3) = nI (kT K i 3) := e4 i hi 3 (by omega)
    rw [fX6_drift_L43]
    simp (disch := omega) only [nm_q, bd1_some, bd2_some, bd3_some, bd4_some, bd5_some, bd6_some, bd7_some, bd8_some, bd9_some, bd10_some, bd11_some, bd1_ite, ↓reduceIte, gd_nI, gb_nI, gb_ite, li, liL, nI_add, nI_1, pk_sub, pk_mul, pk_div, nI_clamp, nI_eq, nI_leI, nI_ltI, nI_eqn, nI_neq, nI_nn, nI_len, nI_ltn, ngI_le, ngI_lt, nng, sm10, sm8, shr_n, shl_n, and_1, fa_or, leT, leF, ltT, ltF, eqT, eqF, e43, a1, a2]
    refine ih (nI (i + 1), _) ⟨rfl, fun u hu => ?_⟩
    show upd _ _ _ (2 * u) = _ ∧ upd _ _ _ (2 * u + 1) = _
    by_cases c : u = i
    · subst c
      rw [pk_un (by omega), pk_us, pk_us]
      exact ⟨rfl, rfl⟩
    · rw [pk_un (by omega), pk_un (by omega), pk_un (by omega), pk_un (by omega)]
      exact e2 u (by omega)
  · rintro ⟨x1, d⟩ n ⟨e1, e2⟩
    simp only at e1 e2 ⊢
    subst e1
    rw [fX6_drift_L43]
    simp (disch := omega) only [nm_q, bd1_some, bd2_some, bd3_some, bd4_some, bd5_some, bd6_some, bd7_some, bd8_some, bd9_some, bd10_some, bd11_some, bd1_ite, ↓reduceIte, gd_nI, gb_nI, gb_ite, li, liL, nI_add, nI_1, pk_sub, pk_mul, pk_div, nI_clamp, nI_eq, nI_leI, nI_ltI, nI_eqn, nI_neq, nI_nn, nI_len, nI_ltn, ngI_le, ngI_lt, nng, sm10, sm8, shr_n, shl_n, and_1, fa_or, leT, leF, ltT, ltF, eqT, eqF, e43]
    exact hC d e2
theorem m_put {K K' : KT} {st d : AI} {h : Int32} (hK : WFk K) (hm : RCm K st 0 h) (hl : LikeK K K') (hd : DR K' d) (P : Option (Int32 × AI × AI × AI × AI × AI) → Prop) (C : Int32 → AI → Option (Int32 × AI × AI × AI × AI × AI)) (hC : ∀ now, RN K' (kW K') now → P (C (nI (kN K)) now)) (F : Nat) (hF : 6 < F) (now : AI) : P (fX6_drift_L197 st d C F (nI 0) (fa_fill st now 61)) := by
  have hN := WF_N hK
  have hH := WF_H hK
  obtain ⟨_, _, e43, _⟩ := RCm0 hm
  obtain ⟨l1, l2, l3, l4, l5⟩ := hl
  have hd : ∀ u, u < kN K → d (2 * u) = nI (kT K' u 2) ∧ d (2 * u + 1) = nI (kT K' u 3) := fun u hu => hd u (by show u < K'.2.2.1; rw [l3]; exact hu)
  obtain ⟨a1, a2, a3, a4, a5⟩ := RN_starts now hK hm
  refine solo (fun n (t : Int32 × AI) => fX6_drift_L197 st d C n t.1 t.2) (fun i t => t.1 = nI i ∧ WB (kW K) t.2 ∧ (∀ h, h < 10 → t.2 (8 + h) = nI (kWi K h)) ∧ t.2 43 = nI (kN K) ∧ (∀ s, s < kN K → ∀ k, k < 5 → t.2 (18 + 5 * s + k) = nI (tv (if s < i then kT K' s else kT K s) k)) ∧ (∀ h, h < kH K → t.2 (44 + h) = nI (cell (kHp K h)))) P (kN K) ?_ ?_ (kN K) 0 F (nI 0, fa_fill st now 61) (by omega) (by omega) ⟨rfl, a1, a2, a3, fun s hs k hk => by rw [if_neg (by omega)]; exact a4 s hs k hk, a5⟩
  · rintro i ⟨x1, t⟩ n hi ⟨e1, b1, b2, b3, b4, b5⟩ ih
    simp only at e1 b1 b2 b3 b4 b5 ⊢
    subst e1
    obtain ⟨c1, c2⟩ := hd i hi
    rw [fX6_drift_L197]
    simp (disch := omega) only [nm_q, bd1_some, bd2_some, bd3_some, bd4_some, bd5_some, bd6_some, bd7_some, bd8_some, bd9_some, bd10_some, bd11_some, bd1_ite, ↓reduceIte, gd_nI, gb_nI, gb_ite, li, liL, nI_add, nI_1, pk_sub, pk_mul, pk_div, nI_clamp, nI_eq, nI_leI, nI_ltI, nI_eqn, nI_neq, nI_nn, nI_len, nI_ltn, ngI_le, ngI_lt, nng, sm10, sm8, shr_n, shl_n, and_1, fa_or, leT, leF, ltT, ltF, eqT, eqF, e43, c1, c2, m_bec]
    refine ih (nI (i + 1), _) ⟨rfl, fun x hx => ?_, fun x hx => ?_, ?_, fun s hs k hk => ?_, fun x hx => ?_⟩
    · show upd _ _ _ x = _
      rw [pk_un (by omega), pk_un (by omega)]; exact b1 x hx
    · show upd _ _ _ (8 + x) = _
      rw [pk_un (by omega), pk_un (by omega)]; exact b2 x hx
    · show upd _ _ _ 43 = _
      rw [pk_un (by omega), pk_un (by omega)]; exact b3
    · show upd _ _ _ (18 + 5 * s + k) = _
      have b6 := b4 s hs k hk
      by_cases c : s = i
      · subst c
        rw [if_neg (by omega)] at b6
        rw [if_pos (by omega)]
        by_cases k2 : k = 2
        · subst k2
          rw [pk_un (by omega), pk_us]; rfl
        · by_cases k3 : k = 3
          · subst k3
            rw [pk_us]; rfl
          · rw [pk_un (by omega), pk_un (by omega), b6, tv_k, tv_k, l5 s k k2 k3]
      · rw [pk_un (by omega), pk_un (by omega), b6]
        by_cases d : s < i
        · rw [if_pos d, if_pos (by omega)]
        · rw [if_neg d, if_neg (by omega)]
    · show upd _ _ _ (44 + x) = _
      rw [pk_un (by omega), pk_un (by omega)]; exact b5 x hx
  · rintro ⟨x1, t⟩ n ⟨e1, b1, b2, b3, b4, b5⟩
    simp only at e1 b1 b2 b3 b4 b5 ⊢
    subst e1
    rw [fX6_drift_L197]
    simp (disch := omega) only [nm_q, bd1_some, bd2_some, bd3_some, bd4_some, bd5_some, bd6_some, bd7_some, bd8_some, bd9_some, bd10_some, bd11_some, bd1_ite, ↓reduceIte, gd_nI, gb_nI, gb_ite, li, liL, nI_add, nI_1, pk_sub, pk_mul, pk_div, nI_clamp, nI_eq, nI_leI, nI_ltI, nI_eqn, nI_neq, nI_nn, nI_len, nI_ltn, ngI_le, ngI_lt, nng, sm10, sm8, shr_n, shl_n, and_1, fa_or, leT, leF, ltT, ltF, eqT, eqF, e43]
    refine hC t ⟨?_, fun x hx => ?_, ?_, fun s hs k hk => ?_, fun x hx => ?_⟩
    · show WB K'.1 t
      rw [l1]; exact b1
    · show t (8 + x) = nI (K'.2.1 x)
      rw [l2]; exact b2 x hx
    · show t 43 = nI K'.2.2.1
      rw [l3]; exact b3
    · have hs2 : s < kN K := by have : s < K'.2.2.1 := hs; rw [l3] at this; exact this
      rw [b4 s hs2 k hk, if_pos hs2]
    · have hx2 : x < kH K := by have : x < K'.2.2.2.2.1 := hx; rw [l4] at this; exact this
      show t (44 + x) = nI (cell (K'.2.2.2.2.2.1 x))
      rw [l4]; exact b5 x hx2
