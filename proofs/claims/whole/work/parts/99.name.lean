-- NAMES of lines, both sides
def nmP (t : Nat → Nat) (s e i : Nat) : Prop := e - s = slen i ∧ ∀ k, k < slen i → nI (t (s + k)) = sch i k
theorem slen_le : ∀ i, i < 7 → slen i ≤ 8 ∧ 4 ≤ slen i := by decide
theorem c_isName {n : Nat} {t : Nat → Nat} {s e i : Nat} {r : RT} (h : Cls n t e r) (hs : rSt r = nI s) (hse : s ≤ e) (hen : e ≤ n) (hi : i < 7) : (nmP t s e i → fX2_isName i r = some (nI 1)) ∧ (¬ nmP t s e i → fX2_isName i r = some (nI 0)) := by
  obtain ⟨h1, h2, h3, h4⟩ := h
  have hn := h1.1
  have hl := slen_le i hi
  obtain ⟨F, hF⟩ : ∃ F, F = 4096 := ⟨_, rfl⟩
  rw [fX2_isName, nm_q, h3, hs, pk_sub hse, ← hF]
  by_cases c : e - s = slen i
  · rw [if_pos (by rw [nI_eq (by omega) (by omega)]; exact c.symm)]
    have key : (nmP t s e i ∧ fX2_isName_L20 r i (fun v3 => some 1) F 0 = some (nI 1)) ∨ (¬ nmP t s e i ∧ fX2_isName_L20 r i (fun v3 => some 1) F 0 = some (nI 0)) := by
      refine solo (fun m (x : Int32) => fX2_isName_L20 r i (fun v3 => some 1) m x) (fun k x => x = nI k ∧ ∀ j, j < k → nI (t (s + j)) = sch i j) (fun y => (nmP t s e i ∧ y = some (nI 1)) ∨ (¬ nmP t s e i ∧ y = some (nI 0))) (slen i) ?_ ?_ (slen i) 0 F (nI 0) (by omega) (by omega) ⟨rfl, fun j hj => by omega⟩
      · rintro k x m hk ⟨rfl, e2⟩ ih
        obtain ⟨b1, b2⟩ := h1.2 (s + k) (by omega)
        show (_ ∧ fX2_isName_L20 r i _ (m + 1) (nI k) = _) ∨ (_ ∧ fX2_isName_L20 r i _ (m + 1) (nI k) = _)
        rw [fX2_isName_L20, if_neg (nI_ge hk (by omega)), nm_q, hs, nI_add, gd_nI _ (by omega) (by omega), nm_q, nI_clamp (by omega), b1, gd_nI _ hk (by omega), nI_clamp (by omega)]
        by_cases d : nI (t (s + k)) = sch i k
        · rw [if_pos d, nm_q, nI_1]
          exact ih (nI (k + 1)) ⟨rfl, fun j hj => by
            by_cases z : j = k
            · rw [z]; exact d
            · exact e2 j (by omega)⟩
        · rw [if_neg d]
          exact Or.inr ⟨fun q => d (q.2 k hk), rfl⟩
      · rintro x m ⟨rfl, e2⟩
        show (_ ∧ fX2_isName_L20 r i _ (m + 1) (nI (slen i)) = _) ∨ (_ ∧ fX2_isName_L20 r i _ (m + 1) (nI (slen i)) = _)
        rw [fX2_isName_L20, if_pos (nI_le (Nat.le_refl _) (by omega))]
        exact Or.inl ⟨⟨c, e2⟩, rfl⟩
    rcases key with ⟨k1, k2⟩ | ⟨k1, k2⟩
    · exact ⟨fun _ => k2, fun z => absurd k1 z⟩
    · exact ⟨fun z => absurd z k1, fun _ => k2⟩
  · rw [if_neg (by rw [nI_eq (by omega) (by omega)]; exact fun z => c z.symm)]
    exact ⟨fun z => absurd z.1 c, fun _ => rfl⟩
theorem nameOf_n : ∀ i, i < 7 → fX2_nameOf (nI i) = some i := by decide
theorem c_lineNamed {n : Nat} {t : Nat → Nat} {s e : Nat} {r : RT} (h : Cls n t e r) (hs : rSt r = nI s) (hse : s ≤ e) (hen : e ≤ n) : ∃ j, j ≤ 7 ∧ (j < 7 → nmP t s e j) ∧ (∀ k, k < j → ¬ nmP t s e k) ∧ fX2_lineNamed r = some (nI j) := by
  obtain ⟨F, hF⟩ : ∃ F, F = 4096 := ⟨_, rfl⟩
  rw [fX2_lineNamed, ← hF]
  refine solo (fun m (x : Int32) => fX2_lineNamed_L2 r (fun v1 => some 7) m x) (fun k x => x = nI k ∧ ∀ j, j < k → ¬ nmP t s e j) (fun y => ∃ j, j ≤ 7 ∧ (j < 7 → nmP t s e j) ∧ (∀ k, k < j → ¬ nmP t s e k) ∧ y = some (nI j)) 7 ?_ ?_ 7 0 F (nI 0) (by omega) (by omega) ⟨rfl, fun j hj => by omega⟩
  · rintro k x m hk ⟨rfl, e2⟩ ih
    obtain ⟨a1, a2⟩ := c_isName (i := k) h hs hse hen hk
    show ∃ j, j ≤ 7 ∧ _ ∧ _ ∧ fX2_lineNamed_L2 r _ (m + 1) (nI k) = _
    rw [fX2_lineNamed_L2, if_neg (show ¬ (7 : Int32) ≤ nI k from nI_ge (b := 7) hk (by omega)), nameOf_n k hk, bd1_some]
    by_cases d : nmP t s e k
    · rw [a1 d, bd1_some, if_neg (show ¬ nI 1 = 0 from n10)]
      exact ⟨k, by omega, fun _ => d, e2, rfl⟩
    · rw [a2 d, bd1_some, if_pos (show nI 0 = 0 from rfl), nm_q, nI_1]
      exact ih (nI (k + 1)) ⟨rfl, fun j hj => by
        by_cases z : j = k
        · rw [z]; exact d
        · exact e2 j (by omega)⟩
  · rintro x m ⟨rfl, e2⟩
    show ∃ j, j ≤ 7 ∧ _ ∧ _ ∧ fX2_lineNamed_L2 r _ (m + 1) (nI 7) = _
    rw [fX2_lineNamed_L2, if_pos (by decide)]
    exact ⟨7, by omega, fun z => absurd z (by omega), e2, rfl⟩
-- the reference
theorem tw {α : Type} {X Y : Option Int32} {N T : Option α} (M : Prop) [Decidable M] (h0 : ¬ M → X = some (nI 0) ∨ X = some (nI 1) ∧ Y = some (nI 0)) (h1 : M → X = some (nI 1) ∧ Y = some (nI 1)) : (bd1 X fun r => if r = 0 then N else bd1 Y fun r' => if r' = 0 then N else T) = if M then T else N := by
  by_cases m : M
  · rw [if_pos m, (h1 m).1, bd1_some, if_neg (show ¬ nI 1 = 0 from n10), (h1 m).2, bd1_some, if_neg (show ¬ nI 1 = 0 from n10)]
  · rw [if_neg m]
    rcases h0 m with h | ⟨h, h'⟩
    · rw [h, bd1_some, if_pos (show nI 0 = 0 from rfl)]
    · rw [h, bd1_some, if_neg (show ¬ nI 1 = 0 from n10), h', bd1_some, if_pos (show nI 0 = 0 from rfl)]
theorem m_is {n : Nat} {t : Nat → Nat} {tape : AI} {s e L a b c : Nat} (h : BT n t tape) (hse : s ≤ e) (hen : e ≤ n) (hL : 3 ≤ L) (hL2 : L < 200) (ha : a < 128) (hb : b < 128) (hc : c < 128) : fX6_is (nI L) (nI a) (nI b) (nI c) tape (nI n) (nI e) (nI s) = some (if e - s = L ∧ t s = a ∧ t (s + 1) = b ∧ t (s + 2) = c then nI 1 else nI 0) := by
  have hn := h.1
  rw [fX6_is, nm_q, pk_sub hse]
  by_cases c0 : e - s = L
  · rw [if_pos (by rw [c0]), m_byte h (by omega), bd1_some]
    have b0 := (h.2 s (by omega)).2
    have b1 := (h.2 (s + 1) (by omega)).2
    have b2 := (h.2 (s + 2) (by omega)).2
    have i1 : nI s + 1 = nI (s + 1) := nI_1 s
    have i2 : nI s + 2 = nI (s + 2) := nI_add s 2
    by_cases c1 : t s = a
    · rw [if_pos (by rw [c1]), nm_q, i1, m_byte h (by omega), bd1_some]
      by_cases c2 : t (s + 1) = b
      · rw [if_pos (by rw [c2]), nm_q, i2, m_byte h (by omega), bd1_some]
        by_cases c3 : t (s + 2) = c
        · rw [if_pos (by rw [c3]), if_pos ⟨c0, c1, c2, c3⟩]; rfl
        · rw [if_neg (by rw [nI_eq (by omega) (by omega)]; exact c3), if_neg (fun q => c3 q.2.2.2)]; rfl
      · rw [if_neg (by rw [nI_eq (by omega) (by omega)]; exact c2), if_neg (fun q => c2 q.2.2.1)]; rfl
    · rw [if_neg (by rw [nI_eq (by omega) (by omega)]; exact c1), if_neg (fun q => c1 q.2.1)]; rfl
  · rw [if_neg (by rw [nI_eq (by omega) (by omega)]; exact c0), if_neg (fun q => c0 q.1)]; rfl
theorem m_ends1 {n : Nat} {t : Nat → Nat} {tape : AI} {s a : Nat} (h : BT n t tape) (hs : s + 3 < n) (ha : a < 128) : fX6_ends (nI a) 0 0 tape (nI n) (nI s) = some (if t (s + 3) = a then nI 1 else nI 0) := by
  have hn := h.1
  have b3 := (h.2 (s + 3) hs).2
  rw [fX6_ends, nm_q, show nI s + 3 = nI (s + 3) from nI_add s 3, m_byte h hs, bd1_some]
  by_cases c : t (s + 3) = a
  · rw [if_pos (by rw [c]), if_pos c, if_pos rfl, if_pos rfl]; rfl
  · rw [if_neg (by rw [nI_eq (by omega) (by omega)]; exact c), if_neg c]; rfl
theorem m_ends2 {n : Nat} {t : Nat → Nat} {tape : AI} {s a b : Nat} (h : BT n t tape) (hs : s + 4 < n) (ha : a < 128) (hb : b < 128) (hb0 : 0 < b) : fX6_ends (nI a) (nI b) 0 tape (nI n) (nI s) = some (if t (s + 3) = a ∧ t (s + 4) = b then nI 1 else nI 0) := by
  have hn := h.1
  have b3 := (h.2 (s + 3) (by omega)).2
  have b4 := (h.2 (s + 4) hs).2
  rw [fX6_ends, nm_q, show nI s + 3 = nI (s + 3) from nI_add s 3, m_byte h (by omega), bd1_some]
  by_cases c : t (s + 3) = a
  · rw [if_pos (by rw [c]), if_neg (show ¬ nI b = 0 by rw [show (0 : Int32) = nI 0 from rfl, nI_eq (by omega) (by omega)]; omega), nm_q, show nI s + 4 = nI (s + 4) from nI_add s 4, m_byte h hs, bd1_some]
    by_cases d : t (s + 4) = b
    · rw [if_pos (by rw [d]), if_pos rfl, if_pos ⟨c, d⟩]; rfl
    · rw [if_neg (by rw [nI_eq (by omega) (by omega)]; exact d), if_neg (fun q => d q.2)]; rfl
  · rw [if_neg (by rw [nI_eq (by omega) (by omega)]; exact c), if_neg (fun q => c q.1)]; rfl
theorem m_ends3 {n : Nat} {t : Nat → Nat} {tape : AI} {s a b c : Nat} (h : BT n t tape) (hs : s + 5 < n) (ha : a < 128) (hb : b < 128) (hb0 : 0 < b) (hc : c < 128) (hc0 : 0 < c) : fX6_ends (nI a) (nI b) (nI c) tape (nI n) (nI s) = some (if t (s + 3) = a ∧ t (s + 4) = b ∧ t (s + 5) = c then nI 1 else nI 0) := by
  have hn := h.1
  have b3 := (h.2 (s + 3) (by omega)).2
  have b4 := (h.2 (s + 4) (by omega)).2
  have b5 := (h.2 (s + 5) hs).2
  rw [fX6_ends, nm_q, show nI s + 3 = nI (s + 3) from nI_add s 3, m_byte h (by omega), bd1_some]
  by_cases d : t (s + 3) = a
  · rw [if_pos (by rw [d]), if_neg (show ¬ nI b = 0 by rw [show (0 : Int32) = nI 0 from rfl, nI_eq (by omega) (by omega)]; omega), nm_q, show nI s + 4 = nI (s + 4) from nI_add s 4, m_byte h (by omega), bd1_some]
    by_cases d2 : t (s + 4) = b
    · rw [if_pos (by rw [d2]), if_neg (show ¬ nI c = 0 by rw [show (0 : Int32) = nI 0 from rfl, nI_eq (by omega) (by omega)]; omega), nm_q, show nI s + 5 = nI (s + 5) from nI_add s 5, m_byte h hs, bd1_some]
      by_cases d3 : t (s + 5) = c
      · rw [if_pos (by rw [d3]), if_pos ⟨d, d2, d3⟩]; rfl
      · rw [if_neg (by rw [nI_eq (by omega) (by omega)]; exact d3), if_neg (fun q => d3 q.2.2)]; rfl
    · rw [if_neg (by rw [nI_eq (by omega) (by omega)]; exact d2), if_neg (fun q => d2 q.2.1)]; rfl
  · rw [if_neg (by rw [nI_eq (by omega) (by omega)]; exact d), if_neg (fun q => d q.1)]; rfl
