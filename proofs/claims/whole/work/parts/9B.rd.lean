-- reading on: the reference's readers, with a fault and without
theorem nz {f : Nat} (h1 : 1 ≤ f) (h5 : f ≤ 5) : ¬ nI f = 0 := by
  rw [show (0 : Int32) = nI 0 from rfl, nI_eq (by omega) (by omega)]
  omega
theorem nle {f : Nat} (h1 : 1 ≤ f) (h5 : f ≤ 5) : ¬ nI f ≤ 0 := by
  rw [show (0 : Int32) = nI 0 from rfl, nI_leI (by omega) (by omega)]
  omega
theorem m_lookF {f : Nat} (lo hi frm sort value w : Int32) (h1 : 1 ≤ f) (h5 : f ≤ 5) : fX6_looked lo hi frm sort value (nI f) w = some (nI 0, nI f, w) := by
  rw [fX6_looked, if_neg (nz h1 h5), bd2_some, if_neg (nz h1 h5), bd2_some, if_neg (nz h1 h5)]
  rfl
theorem m_lookCF {f : Nat} (frm sort value w : Int32) (h1 : 1 ≤ f) (h5 : f ≤ 5) : fX6_lookedCell frm sort value (nI f) w = some (nI 0, nI f, w) := by
  rw [fX6_lookedCell, m_lookF _ _ _ _ _ _ h1 h5, bd3_some, if_neg (nz h1 h5), bd2_some, if_neg (nz h1 h5)]
  rfl
theorem m_rdF {f : Nat} {tape : AI} (lo hi taped pos frm sort value w : Int32) (h1 : 1 ≤ f) (h5 : f ≤ 5) : fX6_readNumber lo hi tape taped pos frm sort value (nI f) w = some (nI 0, pos, frm, sort, value, nI f, w) := by
  rw [fX6_readNumber, m_lookF _ _ _ _ _ _ h1 h5, bd3_some, m_takesF _ _ _ _ _ _ h1 h5, bd6_some]
theorem m_rdCF {f : Nat} {tape : AI} (taped pos frm sort value w : Int32) (h1 : 1 ≤ f) (h5 : f ≤ 5) : fX6_readCell tape taped pos frm sort value (nI f) w = some (nI 0, pos, frm, sort, value, nI f, w) := by
  rw [fX6_readCell, m_lookCF _ _ _ _ h1 h5, bd3_some, m_takesF _ _ _ _ _ _ h1 h5, bd6_some]
/-- the bounds of a part, as the reference has them -/
def loP (p : Nat) : Nat := if p = 3 then 1 else 0
def hiP (p : Nat) : Nat := if p = 2 then 3 else if p = 5 then 4 else 9
theorem ok_rg : ∀ p, p < 6 → 2 ≤ p → ∀ x, x < 100 → okB p x = decide (loP p ≤ x ∧ x ≤ hiP p) := by decide +kernel
theorem m_look {n : Nat} {t : Nat → Nat} {a p : Nat} {pos frm sort value fault wrongAt : Int32} (ha : a ≤ n) (hp : p < 6) (hp2 : 2 ≤ p) (h : Sync n t a pos frm sort value fault wrongAt) : fX6_looked (nI (loP p)) (nI (hiP p)) frm sort value fault wrongAt = some (if nF n t p a = 0 then (nI (tkV n t a), nI 0, wrongAt) else (nI 0, nI (nF n t p a), nI (tkS n t a))) := by
  rw [m_looked ha (by unfold loP; split <;> omega) (by unfold hiP; split; omega; split <;> omega) h]
  unfold nF
  by_cases k4 : tkK n t a = 4
  · rw [if_pos k4, if_pos k4, if_neg (by omega)]
  · rw [if_neg k4, if_neg k4]
    by_cases k2 : tkK n t a = 2
    · have hv := tkV_le ha k2
      rw [if_pos k2, if_pos k2, ok_rg p hp hp2 _ (by omega)]
      by_cases c : loP p ≤ tkV n t a ∧ tkV n t a ≤ hiP p
      · rw [if_pos c, decide_eq_true c, tt_i, if_pos rfl]
      · rw [if_neg c, decide_eq_false c, ff_i, if_neg (show ¬ (3 : Nat) = 0 by omega)]
    · rw [if_neg k2, if_neg k2, if_neg (show ¬ (2 : Nat) = 0 by omega)]
theorem nF_good {n : Nat} {t : Nat → Nat} {a p : Nat} {pos frm sort value fault wrongAt : Int32} (h : Sync n t a pos frm sort value fault wrongAt) (h0 : nF n t p a = 0) : pos = nI (tkE n t a) ∧ frm = nI (tkS n t a) ∧ fault = nI 0 := by
  rcases h with g | g
  · exact ⟨g.2.1, g.2.2.1, g.2.2.2.2.2⟩
  · unfold nF at h0
    rw [if_pos g.1] at h0
    omega
theorem m_rd {n : Nat} {t : Nat → Nat} {tape : AI} {a p : Nat} {pos frm sort value fault wrongAt : Int32} (hb : BT n t tape) (ha : a ≤ n) (hp : p < 6) (hp2 : 2 ≤ p) (h : Sync n t a pos frm sort value fault wrongAt) : (nF n t p a = 0 → ∃ pos' frm' sort' value' fault' wrongAt', fX6_readNumber (nI (loP p)) (nI (hiP p)) tape (nI n) pos frm sort value fault wrongAt = some (nI (tkV n t a), pos', frm', sort', value', fault', wrongAt') ∧ Sync n t (tkE n t a) pos' frm' sort' value' fault' wrongAt') ∧ (nF n t p a ≠ 0 → ∃ pos' frm' sort' value', fX6_readNumber (nI (loP p)) (nI (hiP p)) tape (nI n) pos frm sort value fault wrongAt = some (nI 0, pos', frm', sort', value', nI (nF n t p a), nI (tkS n t a))) := by
  have hE := tkE_b (t := t) ha
  have hf := nF_le n t p a
  rw [fX6_readNumber, m_look ha hp hp2 h]
  constructor
  · intro h0
    obtain ⟨g1, _, _⟩ := nF_good h h0
    rw [if_pos h0, bd3_some, g1]
    obtain ⟨a1, a2, a3, a4, a5, a6, e1, e2⟩ := m_takes hb hE.2.1 frm sort value wrongAt
    rw [e1, bd6_some]
    exact ⟨a1, a2, a3, a4, a5, a6, rfl, e2⟩
  · intro h0
    rw [if_neg h0, bd3_some, m_takesF _ _ _ _ _ _ (by omega) (by omega), bd6_some]
    exact ⟨_, _, _, _, rfl⟩
theorem m_rdC {n : Nat} {t : Nat → Nat} {tape : AI} {a : Nat} {pos frm sort value fault wrongAt : Int32} (hb : BT n t tape) (ha : a ≤ n) (h : Sync n t a pos frm sort value fault wrongAt) : (nF n t 1 a = 0 → ∃ pos' frm' sort' value' fault' wrongAt', fX6_readCell tape (nI n) pos frm sort value fault wrongAt = some (nI (tkV n t a), pos', frm', sort', value', fault', wrongAt') ∧ Sync n t (tkE n t a) pos' frm' sort' value' fault' wrongAt') ∧ (nF n t 1 a ≠ 0 → ∃ pos' frm' sort' value', fX6_readCell tape (nI n) pos frm sort value fault wrongAt = some (nI 0, pos', frm', sort', value', nI (nF n t 1 a), nI (tkS n t a))) := by
  have hE := tkE_b (t := t) ha
  have hf := nF_le n t 1 a
  rw [fX6_readCell, m_lookedCell ha h]
  constructor
  · intro h0
    obtain ⟨g1, _, _⟩ := nF_good h h0
    rw [if_pos h0, bd3_some, g1]
    obtain ⟨a1, a2, a3, a4, a5, a6, e1, e2⟩ := m_takes hb hE.2.1 frm sort value wrongAt
    rw [e1, bd6_some]
    exact ⟨a1, a2, a3, a4, a5, a6, rfl, e2⟩
  · intro h0
    rw [if_neg h0, bd3_some, m_takesF _ _ _ _ _ _ (by omega) (by omega), bd6_some]
    exact ⟨_, _, _, _, rfl⟩
theorem nF_ok {n : Nat} {t : Nat → Nat} {a p : Nat} (h : nF n t p a = 0) : tkK n t a = 2 ∧ okB p (tkV n t a) = true := by
  unfold nF at h
  by_cases k4 : tkK n t a = 4
  · rw [if_pos k4] at h; omega
  · rw [if_neg k4] at h
    by_cases k2 : tkK n t a = 2
    · rw [if_pos k2] at h
      refine ⟨k2, ?_⟩
      cases ok : okB p (tkV n t a) with
      | true => rfl
      | false => rw [ok, ff_i] at h; omega
    · rw [if_neg k2] at h; omega
theorem ok_cell {x : Nat} (h : okB 1 x = true) : ∃ q, q < 64 ∧ x = cell q := by
  have h2 : (decide (x ≤ 77) && decide (x % 10 ≤ 7)) = true := h
  simp at h2
  exact ⟨x / 10 * 8 + x % 10, by omega, by unfold cell; omega⟩
/-- one SAYING more -/
def addR (K : KT) (τ : Nat → Nat) : KT := (K.1, K.2.1, kN K + 1, va_up (kT K) (kN K) τ, K.2.2.2.2)
theorem WF_addR {K : KT} {τ : Nat → Nat} (hK : WFk K) (hN : kN K < 5) (ht : okT τ) : WFk (addR K τ) := by
  obtain ⟨b1, b2, b3, b4, b5, b6, b7, b8, b9⟩ := hK
  refine ⟨b1, b2, b3, (show kN K + 1 ≤ 5 by omega), fun s hs => ?_, b6, b7, b8, fun i hi => ⟨?_, (b9 i hi).2⟩⟩
  · show okT (va_up (kT K) (kN K) τ s)
    by_cases d : s = kN K
    · rw [d, up_s]; exact ht
    · rw [up_n _ _ d]
      have hs2 : s < kN K + 1 := hs
      exact b5 s (by omega)
  · show kSs K i < kN K + 1
    have := (b9 i hi).1
    omega
theorem RCc_addR {K : KT} {c : CT} {τ : Nat → Nat} {T' : Nat → AI} (hc : RCc K c) (t2 : ∀ k, k < 5 → T' (kN K) k = nI (tv τ k)) (t3 : ∀ s, s ≠ kN K → T' s = cTo c s) : RCc (addR K τ) (c.1, c.2.1, T', nI (kN K + 1), c.2.2.2.2) := by
  obtain ⟨b1, b2, b3, b4, b5⟩ := hc
  refine ⟨b1, b2, rfl, fun s hs k hk => ?_, b5⟩
  show T' s k = nI (tv (va_up (kT K) (kN K) τ s) k)
  by_cases d : s = kN K
  · subst d
    rw [t2 k hk, up_s]
  · rw [up_n _ _ d, t3 s d]
    have hs2 : s < kN K + 1 := hs
    exact b4 s (by omega) k hk
theorem RCm_addR {K : KT} {st : AI} {h : Int32} {τ : Nat → Nat} (hK : WFk K) (hN : kN K < 5) (hm : RCm K st 0 h) : RCm (addR K τ) (upd (upd (upd (upd (upd (upd st (18 + 5 * kN K + 0) (nI (tv τ 0))) (18 + 5 * kN K + 1) (nI (tv τ 1))) (18 + 5 * kN K + 2) (nI (tv τ 2))) (18 + 5 * kN K + 3) (nI (tv τ 3))) (18 + 5 * kN K + 4) (nI (tv τ 4))) 43 (nI (kN K + 1))) 0 h := by
  have hH := WF_H hK
  have hS := WF_S hK
  obtain ⟨b1, b2, b3, b4, b5, b6, b7, b8, b9⟩ := RCm0 hm
  unfold RCm
  simp only [Nat.zero_add]
  refine ⟨fun y hy => ?_, fun y hy => ?_, pk_us, fun u hu j hj => ?_, b5, fun y hy => ?_, ?_, fun y hy => ?_, fun y hy => ?_⟩
  · simp (disch := omega) only [pk_un]; exact b1 y hy
  · simp (disch := omega) only [pk_un]; exact b2 y hy
  · have hu2 : u < kN K + 1 := hu
    show _ = nI (tv (va_up (kT K) (kN K) τ u) j)
    rw [pk_un (by omega)]
    by_cases d : u = kN K
    · subst d
      rw [up_s]
      have hk5 : j = 0 ∨ j = 1 ∨ j = 2 ∨ j = 3 ∨ j = 4 := by omega
      rcases hk5 with rfl | rfl | rfl | rfl | rfl
      · simp (disch := omega) only [pk_un, pk_us]
      · simp (disch := omega) only [pk_un, pk_us]
      · simp (disch := omega) only [pk_un, pk_us]
      · simp (disch := omega) only [pk_un, pk_us]
      · simp (disch := omega) only [pk_un, pk_us]
    · rw [up_n _ _ d]
      simp (disch := omega) only [pk_un]
      exact b4 u (by omega) j hj
  · have hy2 : y < kH K := hy
    simp (disch := omega) only [pk_un]; exact b6 y hy
  · simp (disch := omega) only [pk_un]; exact b7
  · simp (disch := omega) only [pk_un]; exact b8 y hy
  · simp (disch := omega) only [pk_un]; exact b9 y hy
