-- numbers of a text, both sides
/-- a number that may be told: 1 a CELL, 2 a WAY, 3 a FORCE, 4 an HOUR, 5 a WIND -/
def okB (p x : Nat) : Bool := if p = 1 then decide (x ≤ 77) && decide (x % 10 ≤ 7) else if p = 2 then decide (x ≤ 3) else if p = 3 then decide (1 ≤ x) && decide (x ≤ 9) else if p = 4 then decide (x ≤ 9) else decide (x ≤ 4)
theorem c_okB : ∀ p, p < 6 → 1 ≤ p → ∀ x, x < 100 → fX3_fits (nI p) (nI x) = some (if okB p x then nI 1 else nI 0) := by decide +kernel
/-- what is wrong with the token at a as such a number; 0: nothing -/
def nF (n : Nat) (t : Nat → Nat) (p a : Nat) : Nat := if tkK n t a = 4 then 1 else if tkK n t a = 2 then (if okB p (tkV n t a) then 0 else 3) else 2
theorem nF_le (n : Nat) (t : Nat → Nat) (p a : Nat) : nF n t p a ≤ 3 := by
  unfold nF
  split
  · omega
  · split
    · split <;> omega
    · omega
theorem tkV_le {n : Nat} {t : Nat → Nat} {a : Nat} (ha : a ≤ n) (hk : tkK n t a = 2) : tkV n t a ≤ 99 := by
  have hb := tkS_b (t := t) ha
  unfold tkK at hk
  by_cases c0 : n ≤ tkS n t a
  · rw [if_pos c0] at hk; omega
  · rw [if_neg c0] at hk
    by_cases c1 : t (tkS n t a) = 59
    · rw [if_pos c1] at hk; omega
    · rw [if_neg c1] at hk
      by_cases c2 : isLt t (tkS n t a) = true
      · rw [if_pos c2] at hk; omega
      · rw [if_neg c2] at hk
        by_cases c3 : isDg t (tkS n t a) = true
        · have d0 : t (tkS n t a) ≤ 57 := by
            unfold isDg at c3
            simp at c3
            exact c3.2
          unfold tkV
          by_cases c4 : rn (isDg t) (n - tkS n t a) (tkS n t a) ≤ tkS n t a + 1
          · rw [if_pos c4]; omega
          · rw [if_neg c4]
            have d1 : isDg t (tkS n t a + 1) = true := by
              by_cases z : isDg t (tkS n t a + 1) = true
              · exact z
              · exfalso
                apply c4
                rw [show n - tkS n t a = (n - tkS n t a - 1) + 1 by omega, rn_y c3, rn_n (by simpa using z)]
                omega
            unfold isDg at d1
            simp at d1
            omega
        · rw [if_neg c3] at hk; omega
theorem c_num {n : Nat} {t : Nat → Nat} {a p : Nat} {r : RT} (h : Cls n t a r) (ha : a ≤ n) (hp : p < 6) (hp1 : 1 ≤ p) : (nF n t p a = 0 → ∃ r', fX2_readNumber (nI p) r = some (nI 1, r') ∧ Cls n t (tkE n t a) r' ∧ rVa r' = nI (tkV n t a) ∧ rTh r' = rTh r ∧ rSt r' = nI (tkS n t a)) ∧ (nF n t p a ≠ 0 → ∃ r', fX2_readNumber (nI p) r = some (nI 0, r') ∧ rFl r' = nI (nF n t p a) ∧ rPl r' = nI (tkS n t a)) := by
  obtain ⟨r', q1, q2, q3⟩ := c_next h ha
  unfold nF
  rcases q3 with ⟨k, e1, e2, e3, e4⟩ | ⟨k, e1, e2, e3⟩
  · rw [if_neg k]
    by_cases k2 : tkK n t a = 2
    · have hv := tkV_le ha k2
      have fit := c_okB p hp hp1 (tkV n t a) (by omega)
      rw [if_pos k2]
      rw [fX2_readNumber, e1, bd2_some, if_neg (show ¬ nI 1 = 0 from n10), if_pos (show rTo r' = 2 by rw [e3, k2]; rfl), e4 k2, fit, bd1_some]
      cases ok : okB p (tkV n t a) with
      | true =>
        rw [tt_i, tt_i, if_neg (show ¬ nI 1 = 0 from n10)]
        exact ⟨fun _ => ⟨r', rfl, e2, e4 k2, q1, q2⟩, fun z => absurd rfl z⟩
      | false =>
        rw [ff_i, ff_i, if_pos (show nI 0 = 0 from rfl)]
        exact ⟨fun z => absurd z (by omega), fun _ => ⟨rPl' (rFl' r' 3) (rSt (rFl' r' 3)), rfl, rfl, q2⟩⟩
    · rw [if_neg k2, fX2_readNumber, e1, bd2_some, if_neg (show ¬ nI 1 = 0 from n10), if_neg (show ¬ rTo r' = 2 by
        have : tkK n t a < 4 := by
          unfold tkK at k ⊢
          split
          · omega
          · split
            · omega
            · split
              · omega
              · split
                · split
                  · omega
                  · exfalso; apply k; rw [if_neg (by assumption), if_neg (by assumption), if_neg (by assumption), if_pos (by assumption), if_neg (by assumption)]
                · exfalso; apply k; rw [if_neg (by assumption), if_neg (by assumption), if_neg (by assumption), if_neg (by assumption)]
        rw [e3, show (2 : Int32) = nI 2 from rfl, nI_eq (by omega) (by omega)]; exact k2)]
      exact ⟨fun z => absurd z (by omega), fun _ => ⟨rPl' (rFl' r' 2) (rSt (rFl' r' 2)), rfl, rfl, q2⟩⟩
  · rw [if_pos k, fX2_readNumber, e1, bd2_some, if_pos (show nI 0 = 0 from rfl)]
    exact ⟨fun z => absurd z (by omega), fun _ => ⟨r', rfl, e2, e3⟩⟩
theorem tkK_le (n : Nat) (t : Nat → Nat) (a : Nat) : tkK n t a ≤ 4 := by
  unfold tkK
  split
  · omega
  · split
    · omega
    · split
      · omega
      · split
        · split <;> omega
        · omega
theorem m_looked {n : Nat} {t : Nat → Nat} {a lo hi : Nat} {pos frm sort value fault wrongAt : Int32} (ha : a ≤ n) (hlo : lo < 100) (hhi : hi < 100) (h : Sync n t a pos frm sort value fault wrongAt) : fX6_looked (nI lo) (nI hi) frm sort value fault wrongAt = some (if tkK n t a = 4 then (nI 0, nI 1, nI (tkS n t a)) else if tkK n t a = 2 then (if lo ≤ tkV n t a ∧ tkV n t a ≤ hi then (nI (tkV n t a), nI 0, wrongAt) else (nI 0, nI 3, nI (tkS n t a))) else (nI 0, nI 2, nI (tkS n t a))) := by
  have hk4 := tkK_le n t a
  rcases h with ⟨k, g1, g2, g3, g4, g5⟩ | ⟨k, b1, b2, _, b3, b4⟩
  · rw [if_neg k]
    subst g2 g3 g5
    by_cases k2 : tkK n t a = 2
    · have hv := tkV_le ha k2
      rw [if_pos k2, g4 k2, k2]
      have ei : fX6_in (nI (tkV n t a)).toInt64 (nI lo).toInt64 (nI hi).toInt64 = some (if lo ≤ tkV n t a ∧ tkV n t a ≤ hi then nI 1 else nI 0) := by rw [nI_l (n := lo) (by omega), nI_l (n := hi) (by omega)]; exact in_nI (by omega) (by omega) (by omega)
      rw [fX6_looked, if_pos (show nI 0 = 0 from rfl), if_pos (show nI 2 = 2 from rfl), bd1_some, show fX6_needs 1 2 (nI (tkS n t a)) (nI 0) wrongAt = some (nI 0, wrongAt) from rfl, bd2_some, bd2_some, if_pos (show nI 0 = 0 from rfl), nm_q, nm_q, nm_q, ei, bd1_some]
      by_cases c : lo ≤ tkV n t a ∧ tkV n t a ≤ hi
      · rw [if_pos c, if_pos c]; rfl
      · rw [if_neg c, if_neg c]; rfl
    · rw [if_neg k2, fX6_looked, if_pos (show nI 0 = 0 from rfl), if_neg (show ¬ nI (tkK n t a) = 2 by rw [show (2 : Int32) = nI 2 from rfl, nI_eq (by omega) (by omega)]; exact k2)]
      rfl
  · rw [if_pos k]
    subst b3 b4
    rfl
theorem bd3_ite {α1 α2 α3 β : Type} (x : α1 × α2 × α3) (k : α1 → α2 → α3 → Option β) : bd3 (some x) k = k x.1 x.2.1 x.2.2 := nrf rfl
theorem m_lookedCell {n : Nat} {t : Nat → Nat} {a : Nat} {pos frm sort value fault wrongAt : Int32} (ha : a ≤ n) (h : Sync n t a pos frm sort value fault wrongAt) : fX6_lookedCell frm sort value fault wrongAt = some (if nF n t 1 a = 0 then (nI (tkV n t a), nI 0, wrongAt) else (nI 0, nI (nF n t 1 a), nI (tkS n t a))) := by
  have l : fX6_looked 0 77 frm sort value fault wrongAt = _ := m_looked (lo := 0) (hi := 77) ha (by omega) (by omega) h
  have fr : tkK n t a ≠ 4 → frm = nI (tkS n t a) := fun k => by
    rcases h with g | g
    · exact g.2.2.1
    · exact absurd g.1 k
  unfold nF
  rw [fX6_lookedCell, l, bd3_ite]
  by_cases k4 : tkK n t a = 4
  · rw [if_pos k4, if_pos k4]; rfl
  · rw [if_neg k4, if_neg k4]
    by_cases k2 : tkK n t a = 2
    · have hv := tkV_le ha k2
      rw [if_pos k2, if_pos k2]
      by_cases c : 0 ≤ tkV n t a ∧ tkV n t a ≤ 77
      · rw [if_pos c]
        have tab := isC_tab (tkV n t a) (by omega)
        have ok : okB 1 (tkV n t a) = decide (tkV n t a % 10 ≤ 7) := by
          show (decide (tkV n t a ≤ 77) && decide (tkV n t a % 10 ≤ 7)) = _
          rw [decide_eq_true c.2, Bool.true_and]
        rw [ok]
        by_cases d : tkV n t a % 10 < 8
        · rw [if_pos d] at tab
          rw [decide_eq_true (show tkV n t a % 10 ≤ 7 by omega), tt_i, if_pos rfl, if_pos (show nI 0 = 0 from rfl), tab.2.2]
          rfl
        · rw [if_neg d] at tab
          rw [decide_eq_false (show ¬ tkV n t a % 10 ≤ 7 by omega), ff_i, if_neg (show ¬ (3 : Nat) = 0 by omega), if_pos (show nI 0 = 0 from rfl), tab.2, fr k4]
          rfl
      · rw [if_neg c]
        have ok : okB 1 (tkV n t a) = false := by
          show (decide (tkV n t a ≤ 77) && decide (tkV n t a % 10 ≤ 7)) = _
          rw [decide_eq_false (by omega), Bool.false_and]
        rw [ok, ff_i]
        rfl
    · rw [if_neg k2, if_neg k2]; rfl
