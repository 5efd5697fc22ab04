-- a coast with one number told otherwise
def tvk (k v : Nat) : Nat := if k = 1 then cell v else v
theorem tv_k (t : Nat → Nat) (k : Nat) : tv t k = tvk k (t k) := by
  unfold tv tvk
  by_cases c : k = 1
  · rw [if_pos c, if_pos c, c]
  · rw [if_neg c, if_neg c]
def setT (K : KT) (s k v : Nat) : KT := (kW K, kWi K, kN K, va_up (kT K) s (va_up (kT K s) k v), K.2.2.2.2)
def setW (K : KT) (W : Nat) : KT := (W, K.2)
def setWi (K : KT) (w : Nat → Nat) : KT := (K.1, w, K.2.2)
def okV (k v : Nat) : Prop := (k = 0 → v ≤ 3) ∧ (k = 1 → v < 64) ∧ (k = 2 → v ≤ 3) ∧ (k = 3 → 1 ≤ v ∧ v ≤ 9) ∧ (k = 4 → v ≤ 9)
theorem okT_set {t : Nat → Nat} {k v : Nat} (h : okT t) (hv : okV k v) : okT (va_up t k v) := by
  obtain ⟨h0, h1, h2, h3, h4, h5⟩ := h
  obtain ⟨v0, v1, v2, v3, v4⟩ := hv
  unfold okT va_up
  refine ⟨?_, ?_, ?_, ?_, ?_, ?_⟩
  · by_cases c : 0 = k
    · rw [if_pos c]; exact v0 c.symm
    · rw [if_neg c]; exact h0
  · by_cases c : 1 = k
    · rw [if_pos c]; exact v1 c.symm
    · rw [if_neg c]; exact h1
  · by_cases c : 2 = k
    · rw [if_pos c]; exact v2 c.symm
    · rw [if_neg c]; exact h2
  · by_cases c : 3 = k
    · rw [if_pos c]; exact (v3 c.symm).1
    · rw [if_neg c]; exact h3
  · by_cases c : 3 = k
    · rw [if_pos c]; exact (v3 c.symm).2
    · rw [if_neg c]; exact h4
  · by_cases c : 4 = k
    · rw [if_pos c]; exact v4 c.symm
    · rw [if_neg c]; exact h5
theorem WF_set {K : KT} {s k v : Nat} (h : WFk K) (hs : s < kN K) (hv : okV k v) : WFk (setT K s k v) := by
  obtain ⟨a1, a2, a3, a4, a5, a6⟩ := h
  refine ⟨a1, a2, a3, a4, fun u hu => ?_, a6⟩
  show okT (va_up (kT K) s (va_up (kT K s) k v) u)
  by_cases c : u = s
  · subst c
    rw [up_s]
    exact okT_set (a5 u hu) hv
  · rw [up_n _ _ c]
    exact a5 u hu
theorem set_T (K : KT) (s k v u j : Nat) : kT (setT K s k v) u j = if u = s ∧ j = k then v else kT K u j := by
  show va_up (kT K) s (va_up (kT K s) k v) u j = _
  by_cases c : u = s
  · subst c
    rw [up_s]
    by_cases d : j = k
    · subst d
      rw [up_s, if_pos ⟨rfl, rfl⟩]
    · rw [up_n _ _ d, if_neg (fun q => d q.2)]
  · rw [up_n _ _ c, if_neg (fun q => c q.1)]
theorem tv_set (K : KT) (s k v u j : Nat) : tv (kT (setT K s k v) u) j = if u = s ∧ j = k then tvk k v else tv (kT K u) j := by
  rw [tv_k, tv_k, set_T]
  by_cases c : u = s ∧ j = k
  · rw [if_pos c, if_pos c, c.2]
  · rw [if_neg c, if_neg c]
theorem KT_ext {K L : KT} (h1 : kT K = kT L) (h2 : K.1 = L.1) (h3 : K.2.1 = L.2.1) (h4 : K.2.2.1 = L.2.2.1) (h5 : K.2.2.2.2 = L.2.2.2.2) : K = L := by
  obtain ⟨a, b, c, d, e⟩ := K
  obtain ⟨a', b', c', d', e'⟩ := L
  simp only at h1 h2 h3 h4 h5
  subst h1 h2 h3 h4 h5
  rfl
theorem set_set (K : KT) (s k v w : Nat) : setT (setT K s k v) s k w = setT K s k w := by
  refine KT_ext (funext fun u => funext fun j => ?_) rfl rfl rfl rfl
  rw [set_T, set_T, set_T]
  by_cases c : u = s ∧ j = k
  · rw [if_pos c, if_pos c]
  · rw [if_neg c, if_neg c, if_neg c]
theorem set_comm (K : KT) {s k l : Nat} (v w : Nat) (h : k ≠ l) : setT (setT K s k v) s l w = setT (setT K s l w) s k v := by
  refine KT_ext (funext fun u => funext fun j => ?_) rfl rfl rfl rfl
  rw [set_T, set_T, set_T, set_T]
  by_cases c : u = s ∧ j = k
  · rw [if_pos c, if_neg (fun q => h (c.2.symm.trans q.2)), if_pos c]
  · rw [if_neg c, if_neg c]
theorem set_same (K : KT) (s k : Nat) : setT K s k (kT K s k) = K := by
  refine KT_ext (funext fun u => funext fun j => ?_) rfl rfl rfl rfl
  rw [set_T]
  by_cases c : u = s ∧ j = k
  · rw [if_pos c, c.1, c.2]
  · rw [if_neg c]
theorem RCc_set {K : KT} {c : CT} {s k v : Nat} (h : RCc K c) : RCc (setT K s k v) (cTo' c (va_up (cTo c) s (upd (cTo c s) k (nI (tvk k v))))) := by
  obtain ⟨h1, h2, h3, h4, h5⟩ := h
  refine ⟨h1, h2, h3, fun u hu j hj => ?_, h5⟩
  show va_up (cTo c) s (upd (cTo c s) k (nI (tvk k v))) u j = _
  rw [tv_set]
  by_cases a : u = s
  · subst a
    rw [up_s]
    by_cases b : j = k
    · subst b
      rw [pk_us, if_pos ⟨rfl, rfl⟩]
    · rw [pk_un b, if_neg (fun q => b q.2)]
      exact h4 u hu j hj
  · rw [up_n _ _ a, if_neg (fun q => a q.1)]
    exact h4 u hu j hj
theorem RN_setT {K : KT} {W : Nat} {now : AI} {s k v : Nat} (h : RN K W now) (hN : kN K ≤ 5) (hs : s < kN K) (hk : k < 5) : RN (setT K s k v) W (upd now (18 + 5 * s + k) (nI (tvk k v))) := by
  obtain ⟨h1, h2, h3, h4, h5⟩ := h
  refine ⟨fun x hx => ?_, fun i hi => ?_, ?_, fun u hu j hj => ?_, fun i hi => ?_⟩
  · rw [pk_un (by omega)]; exact h1 x hx
  · rw [pk_un (by omega)]; exact h2 i hi
  · rw [pk_un (by omega)]; exact h3
  · rw [tv_set]
    by_cases a : u = s ∧ j = k
    · rw [if_pos a, a.1, a.2, pk_us]
    · rw [if_neg a, pk_un (by omega)]
      exact h4 u hu j hj
  · rw [pk_un (by omega)]; exact h5 i hi
theorem m_bec {s k : Nat} (x : Int32) (now : AI) (hs : s < 5) (hk : k < 5) : fX6_becomesOf (nI s) (nI k) x now = some (upd now (18 + 5 * s + k) x) := by
  simp (disch := omega) only [fX6_becomesOf, nm_q, bd1_some, bd2_some, bd3_some, bd4_some, bd5_some, bd6_some, bd7_some, bd8_some, bd9_some, bd10_some, bd11_some, bd1_ite, ↓reduceIte, gd_nI, gb_nI, gb_ite, li, liL, nI_add, nI_1, pk_sub, pk_mul, pk_div, nI_clamp, nI_eq, nI_leI, nI_ltI, nI_eqn, nI_neq, nI_nn, nI_len, nI_ltn, ngI_le, ngI_lt, nng, sm10, sm8, shr_n, shl_n, and_1, fa_or]
theorem RCm_cong {K : KT} {st st' : AI} {o : Nat} {h : Int32} (hK : WFk K) (e : ∀ j, j < 61 → st' (o + j) = st (o + j)) (r : RCm K st o h) : RCm K st' o h := by
  obtain ⟨r1, r2, r3, r4, r5, r6, r7, r8, r9⟩ := r
  have hN := WF_N hK
  have hH : kH K ≤ 4 := hK.2.2.2.2.2.1
  have hS : kS K ≤ 6 := hK.2.2.2.2.2.2.2.1
  refine ⟨fun x hx => ?_, fun x hx => ?_, ?_, fun s hs k hk => ?_, r5, fun x hx => ?_, ?_, fun x hx => ?_, fun x hx => ?_⟩
  · rw [e _ (by omega)]; exact r1 x hx
  · rw [e _ (by omega)]; exact r2 x hx
  · rw [e _ (by omega)]; exact r3
  · rw [e _ (by omega)]; exact r4 s hs k hk
  · rw [e _ (by omega)]; exact r6 x hx
  · rw [e _ (by omega)]; exact r7
  · rw [e _ (by omega)]; exact r8 x hx
  · rw [e _ (by omega)]; exact r9 x hx
theorem RI_cong {k : Nat} {v v' : VT} {c : CT} {st st' ik : AI} {h : Int32} (hv : vKe v' k = vKe v k) (e : ∀ j, 61 ≤ j → st' j = st j) (r : RI k v c st ik h) : RI k v' c st' ik h := by
  obtain ⟨r1, r2⟩ := r
  refine ⟨by rw [hv, r1], ?_⟩
  rcases r2 with r2 | ⟨r2, K, a, b, d⟩
  · exact Or.inl r2
  · exact Or.inr ⟨r2, K, a, b, RCm_cong a (fun j hj => e _ (by omega)) d⟩
theorem RCm_set {K : KT} {st : AI} {h : Int32} {s k v : Nat} (hK : WFk K) (hs : s < kN K) (hk : k < 5) (r : RCm K st 0 h) : RCm (setT K s k v) (upd st (18 + 5 * s + k) (nI (tvk k v))) 0 h := by
  obtain ⟨r1, r2, r3, r4, r5, r6, r7, r8, r9⟩ := r
  have hN := WF_N hK
  have hH : kH K ≤ 4 := hK.2.2.2.2.2.1
  have hS : kS K ≤ 6 := hK.2.2.2.2.2.2.2.1
  simp only [Nat.zero_add] at r1 r2 r3 r4 r6 r7 r8 r9
  unfold RCm
  simp only [Nat.zero_add]
  refine ⟨fun x hx => ?_, fun x hx => ?_, ?_, fun u hu j hj => ?_, r5, fun x hx => ?_, ?_, fun x hx => ?_, fun x hx => ?_⟩
  · rw [pk_un (by omega)]; exact r1 x hx
  · rw [pk_un (by omega)]; exact r2 x hx
  · rw [pk_un (by omega)]; exact r3
  · rw [tv_set]
    by_cases a : u = s ∧ j = k
    · rw [if_pos a, a.1, a.2, pk_us]
    · have hu2 : u < kN K := hu
      rw [if_neg a, pk_un (by omega)]
      exact r4 u hu j hj
  · have hx2 : x < kH K := hx
    rw [pk_un (by omega)]; exact r6 x hx
  · rw [pk_un (by omega)]; exact r7
  · rw [pk_un (by omega)]; exact r8 x hx
  · rw [pk_un (by omega)]; exact r9 x hx
