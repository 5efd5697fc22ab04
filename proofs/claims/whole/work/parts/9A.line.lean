-- NAMES of lines: the reference, and both
def nq0 (t : Nat → Nat) (s e : Nat) : Prop := e - s = 5 ∧ t s = 112 ∧ t (s + 1) = 108 ∧ t (s + 2) = 97 ∧ t (s + 3) = 105 ∧ t (s + 4) = 110
def nq1 (t : Nat → Nat) (s e : Nat) : Prop := e - s = 5 ∧ t s = 115 ∧ t (s + 1) = 109 ∧ t (s + 2) = 97 ∧ t (s + 3) = 108 ∧ t (s + 4) = 108
def nq2 (t : Nat → Nat) (s e : Nat) : Prop := e - s = 6 ∧ t s = 115 ∧ t (s + 1) = 101 ∧ t (s + 2) = 114 ∧ t (s + 3) = 109 ∧ t (s + 4) = 111 ∧ t (s + 5) = 110
def nq3 (t : Nat → Nat) (s e : Nat) : Prop := e - s = 8 ∧ t s = 112 ∧ t (s + 1) = 114 ∧ t (s + 2) = 111 ∧ t (s + 3) = 112 ∧ t (s + 4) = 111 ∧ t (s + 5) = 115 ∧ t (s + 6) = 97 ∧ t (s + 7) = 108
def nq4 (t : Nat → Nat) (s e : Nat) : Prop := e - s = 4 ∧ t s = 119 ∧ t (s + 1) = 97 ∧ t (s + 2) = 108 ∧ t (s + 3) = 108
def nq5 (t : Nat → Nat) (s e : Nat) : Prop := e - s = 4 ∧ t s = 119 ∧ t (s + 1) = 105 ∧ t (s + 2) = 110 ∧ t (s + 3) = 100
def nq6 (t : Nat → Nat) (s e : Nat) : Prop := e - s = 6 ∧ t s = 104 ∧ t (s + 1) = 101 ∧ t (s + 2) = 97 ∧ t (s + 3) = 114 ∧ t (s + 4) = 101 ∧ t (s + 5) = 114
theorem ch_n {x y : Nat} (hx : x < 128) (hy : y < 128) (h : nI x = nI y) : x = y := (nI_eq (by omega) (by omega)).mp h
theorem q_of0 {n : Nat} {t : Nat → Nat} {tape : AI} {s e : Nat} (h : BT n t tape) (hse : s ≤ e) (hen : e ≤ n) : nmP t s e 0 ↔ nq0 t s e := by
  constructor
  · intro hq
    have hL : e - s = 5 := hq.1
    exact ⟨hL, ch_n (h.2 s (by omega)).2 (by omega) (hq.2 0 (by decide)), ch_n (h.2 (s + 1) (by omega)).2 (by omega) (hq.2 1 (by decide)), ch_n (h.2 (s + 2) (by omega)).2 (by omega) (hq.2 2 (by decide)), ch_n (h.2 (s + 3) (by omega)).2 (by omega) (hq.2 3 (by decide)), ch_n (h.2 (s + 4) (by omega)).2 (by omega) (hq.2 4 (by decide))⟩
  · rintro ⟨hL, a0, a1, a2, a3, a4⟩
    refine ⟨hL, fun k hk => ?_⟩
    have hk2 : k < 5 := hk
    have hc : k = 0 ∨ k = 1 ∨ k = 2 ∨ k = 3 ∨ k = 4 := by omega
    rcases hc with rfl | rfl | rfl | rfl | rfl
    · show nI (t (s + 0)) = nI 112
      rw [show s + 0 = s from rfl, a0]
    · show nI (t (s + 1)) = nI 108
      rw [a1]
    · show nI (t (s + 2)) = nI 97
      rw [a2]
    · show nI (t (s + 3)) = nI 105
      rw [a3]
    · show nI (t (s + 4)) = nI 110
      rw [a4]
theorem tw0 {α : Type} {n : Nat} {t : Nat → Nat} {tape : AI} {s e : Nat} {N T : Option α} (h : BT n t tape) (hse : s ≤ e) (hen : e ≤ n) : (bd1 (fX6_is 5 112 108 97 tape (nI n) (nI e) (nI s)) fun r => if r = 0 then N else bd1 (fX6_ends 105 110 0 tape (nI n) (nI s)) fun r' => if r' = 0 then N else T) = if (e - s = 5 ∧ t s = 112 ∧ t (s + 1) = 108 ∧ t (s + 2) = 97) ∧ t (s + 3) = 105 ∧ t (s + 4) = 110 then T else N := by
  have hx : fX6_is 5 112 108 97 tape (nI n) (nI e) (nI s) = some (if e - s = 5 ∧ t s = 112 ∧ t (s + 1) = 108 ∧ t (s + 2) = 97 then nI 1 else nI 0) := m_is (L := 5) (a := 112) (b := 108) (c := 97) h hse hen (by omega) (by omega) (by omega) (by omega) (by omega)
  by_cases c : e - s = 5 ∧ t s = 112 ∧ t (s + 1) = 108 ∧ t (s + 2) = 97
  · have hy : fX6_ends 105 110 0 tape (nI n) (nI s) = some (if t (s + 3) = 105 ∧ t (s + 4) = 110 then nI 1 else nI 0) := m_ends2 (a := 105) (b := 110) h (by omega) (by omega) (by omega) (by omega)
    rw [if_pos c] at hx
    by_cases d : t (s + 3) = 105 ∧ t (s + 4) = 110
    · rw [if_pos d] at hy
      exact tw _ (fun m => absurd ⟨c, d⟩ m) (fun _ => ⟨hx, hy⟩)
    · rw [if_neg d] at hy
      exact tw _ (fun _ => Or.inr ⟨hx, hy⟩) (fun m => absurd m.2 d)
  · rw [if_neg c] at hx
    exact tw _ (fun _ => Or.inl hx) (fun m => absurd m.1 c)
theorem q_of1 {n : Nat} {t : Nat → Nat} {tape : AI} {s e : Nat} (h : BT n t tape) (hse : s ≤ e) (hen : e ≤ n) : nmP t s e 1 ↔ nq1 t s e := by
  constructor
  · intro hq
    have hL : e - s = 5 := hq.1
    exact ⟨hL, ch_n (h.2 s (by omega)).2 (by omega) (hq.2 0 (by decide)), ch_n (h.2 (s + 1) (by omega)).2 (by omega) (hq.2 1 (by decide)), ch_n (h.2 (s + 2) (by omega)).2 (by omega) (hq.2 2 (by decide)), ch_n (h.2 (s + 3) (by omega)).2 (by omega) (hq.2 3 (by decide)), ch_n (h.2 (s + 4) (by omega)).2 (by omega) (hq.2 4 (by decide))⟩
  · rintro ⟨hL, a0, a1, a2, a3, a4⟩
    refine ⟨hL, fun k hk => ?_⟩
    have hk2 : k < 5 := hk
    have hc : k = 0 ∨ k = 1 ∨ k = 2 ∨ k = 3 ∨ k = 4 := by omega
    rcases hc with rfl | rfl | rfl | rfl | rfl
    · show nI (t (s + 0)) = nI 115
      rw [show s + 0 = s from rfl, a0]
    · show nI (t (s + 1)) = nI 109
      rw [a1]
    · show nI (t (s + 2)) = nI 97
      rw [a2]
    · show nI (t (s + 3)) = nI 108
      rw [a3]
    · show nI (t (s + 4)) = nI 108
      rw [a4]
theorem tw1 {α : Type} {n : Nat} {t : Nat → Nat} {tape : AI} {s e : Nat} {N T : Option α} (h : BT n t tape) (hse : s ≤ e) (hen : e ≤ n) : (bd1 (fX6_is 5 115 109 97 tape (nI n) (nI e) (nI s)) fun r => if r = 0 then N else bd1 (fX6_ends 108 108 0 tape (nI n) (nI s)) fun r' => if r' = 0 then N else T) = if (e - s = 5 ∧ t s = 115 ∧ t (s + 1) = 109 ∧ t (s + 2) = 97) ∧ t (s + 3) = 108 ∧ t (s + 4) = 108 then T else N := by
  have hx : fX6_is 5 115 109 97 tape (nI n) (nI e) (nI s) = some (if e - s = 5 ∧ t s = 115 ∧ t (s + 1) = 109 ∧ t (s + 2) = 97 then nI 1 else nI 0) := m_is (L := 5) (a := 115) (b := 109) (c := 97) h hse hen (by omega) (by omega) (by omega) (by omega) (by omega)
  by_cases c : e - s = 5 ∧ t s = 115 ∧ t (s + 1) = 109 ∧ t (s + 2) = 97
  · have hy : fX6_ends 108 108 0 tape (nI n) (nI s) = some (if t (s + 3) = 108 ∧ t (s + 4) = 108 then nI 1 else nI 0) := m_ends2 (a := 108) (b := 108) h (by omega) (by omega) (by omega) (by omega)
    rw [if_pos c] at hx
    by_cases d : t (s + 3) = 108 ∧ t (s + 4) = 108
    · rw [if_pos d] at hy
      exact tw _ (fun m => absurd ⟨c, d⟩ m) (fun _ => ⟨hx, hy⟩)
    · rw [if_neg d] at hy
      exact tw _ (fun _ => Or.inr ⟨hx, hy⟩) (fun m => absurd m.2 d)
  · rw [if_neg c] at hx
    exact tw _ (fun _ => Or.inl hx) (fun m => absurd m.1 c)
theorem q_of2 {n : Nat} {t : Nat → Nat} {tape : AI} {s e : Nat} (h : BT n t tape) (hse : s ≤ e) (hen : e ≤ n) : nmP t s e 2 ↔ nq2 t s e := by
  constructor
  · intro hq
    have hL : e - s = 6 := hq.1
    exact ⟨hL, ch_n (h.2 s (by omega)).2 (by omega) (hq.2 0 (by decide)), ch_n (h.2 (s + 1) (by omega)).2 (by omega) (hq.2 1 (by decide)), ch_n (h.2 (s + 2) (by omega)).2 (by omega) (hq.2 2 (by decide)), ch_n (h.2 (s + 3) (by omega)).2 (by omega) (hq.2 3 (by decide)), ch_n (h.2 (s + 4) (by omega)).2 (by omega) (hq.2 4 (by decide)), ch_n (h.2 (s + 5) (by omega)).2 (by omega) (hq.2 5 (by decide))⟩
  · rintro ⟨hL, a0, a1, a2, a3, a4, a5⟩
    refine ⟨hL, fun k hk => ?_⟩
    have hk2 : k < 6 := hk
    have hc : k = 0 ∨ k = 1 ∨ k = 2 ∨ k = 3 ∨ k = 4 ∨ k = 5 := by omega
    rcases hc with rfl | rfl | rfl | rfl | rfl | rfl
    · show nI (t (s + 0)) = nI 115
      rw [show s + 0 = s from rfl, a0]
    · show nI (t (s + 1)) = nI 101
      rw [a1]
    · show nI (t (s + 2)) = nI 114
      rw [a2]
    · show nI (t (s + 3)) = nI 109
      rw [a3]
    · show nI (t (s + 4)) = nI 111
      rw [a4]
    · show nI (t (s + 5)) = nI 110
      rw [a5]
theorem tw2 {α : Type} {n : Nat} {t : Nat → Nat} {tape : AI} {s e : Nat} {N T : Option α} (h : BT n t tape) (hse : s ≤ e) (hen : e ≤ n) : (bd1 (fX6_is 6 115 101 114 tape (nI n) (nI e) (nI s)) fun r => if r = 0 then N else bd1 (fX6_ends 109 111 110 tape (nI n) (nI s)) fun r' => if r' = 0 then N else T) = if (e - s = 6 ∧ t s = 115 ∧ t (s + 1) = 101 ∧ t (s + 2) = 114) ∧ t (s + 3) = 109 ∧ t (s + 4) = 111 ∧ t (s + 5) = 110 then T else N := by
  have hx : fX6_is 6 115 101 114 tape (nI n) (nI e) (nI s) = some (if e - s = 6 ∧ t s = 115 ∧ t (s + 1) = 101 ∧ t (s + 2) = 114 then nI 1 else nI 0) := m_is (L := 6) (a := 115) (b := 101) (c := 114) h hse hen (by omega) (by omega) (by omega) (by omega) (by omega)
  by_cases c : e - s = 6 ∧ t s = 115 ∧ t (s + 1) = 101 ∧ t (s + 2) = 114
  · have hy : fX6_ends 109 111 110 tape (nI n) (nI s) = some (if t (s + 3) = 109 ∧ t (s + 4) = 111 ∧ t (s + 5) = 110 then nI 1 else nI 0) := m_ends3 (a := 109) (b := 111) (c := 110) h (by omega) (by omega) (by omega) (by omega) (by omega) (by omega)
    rw [if_pos c] at hx
    by_cases d : t (s + 3) = 109 ∧ t (s + 4) = 111 ∧ t (s + 5) = 110
    · rw [if_pos d] at hy
      exact tw _ (fun m => absurd ⟨c, d⟩ m) (fun _ => ⟨hx, hy⟩)
    · rw [if_neg d] at hy
      exact tw _ (fun _ => Or.inr ⟨hx, hy⟩) (fun m => absurd m.2 d)
  · rw [if_neg c] at hx
    exact tw _ (fun _ => Or.inl hx) (fun m => absurd m.1 c)
theorem q_of3 {n : Nat} {t : Nat → Nat} {tape : AI} {s e : Nat} (h : BT n t tape) (hse : s ≤ e) (hen : e ≤ n) : nmP t s e 3 ↔ nq3 t s e := by
  constructor
  · intro hq
    have hL : e - s = 8 := hq.1
    exact ⟨hL, ch_n (h.2 s (by omega)).2 (by omega) (hq.2 0 (by decide)), ch_n (h.2 (s + 1) (by omega)).2 (by omega) (hq.2 1 (by decide)), ch_n (h.2 (s + 2) (by omega)).2 (by omega) (hq.2 2 (by decide)), ch_n (h.2 (s + 3) (by omega)).2 (by omega) (hq.2 3 (by decide)), ch_n (h.2 (s + 4) (by omega)).2 (by omega) (hq.2 4 (by decide)), ch_n (h.2 (s + 5) (by omega)).2 (by omega) (hq.2 5 (by decide)), ch_n (h.2 (s + 6) (by omega)).2 (by omega) (hq.2 6 (by decide)), ch_n (h.2 (s + 7) (by omega)).2 (by omega) (hq.2 7 (by decide))⟩
  · rintro ⟨hL, a0, a1, a2, a3, a4, a5, a6, a7⟩
    refine ⟨hL, fun k hk => ?_⟩
    have hk2 : k < 8 := hk
    have hc : k = 0 ∨ k = 1 ∨ k = 2 ∨ k = 3 ∨ k = 4 ∨ k = 5 ∨ k = 6 ∨ k = 7 := by omega
    rcases hc with rfl | rfl | rfl | rfl | rfl | rfl | rfl | rfl
    · show nI (t (s + 0)) = nI 112
      rw [show s + 0 = s from rfl, a0]
    · show nI (t (s + 1)) = nI 114
      rw [a1]
    · show nI (t (s + 2)) = nI 111
      rw [a2]
    · show nI (t (s + 3)) = nI 112
      rw [a3]
    · show nI (t (s + 4)) = nI 111
      rw [a4]
    · show nI (t (s + 5)) = nI 115
      rw [a5]
    · show nI (t (s + 6)) = nI 97
      rw [a6]
    · show nI (t (s + 7)) = nI 108
      rw [a7]
theorem tw3 {α : Type} {n : Nat} {t : Nat → Nat} {tape : AI} {s e : Nat} {N T : Option α} (h : BT n t tape) (hse : s ≤ e) (hen : e ≤ n) : (bd1 (fX6_is 8 112 114 111 tape (nI n) (nI e) (nI s)) fun r => if r = 0 then N else bd1 (fX6_ends 112 111 115 tape (nI n) (nI s)) fun r' => if r' = 0 then N else T) = if (e - s = 8 ∧ t s = 112 ∧ t (s + 1) = 114 ∧ t (s + 2) = 111) ∧ t (s + 3) = 112 ∧ t (s + 4) = 111 ∧ t (s + 5) = 115 then T else N := by
  have hx : fX6_is 8 112 114 111 tape (nI n) (nI e) (nI s) = some (if e - s = 8 ∧ t s = 112 ∧ t (s + 1) = 114 ∧ t (s + 2) = 111 then nI 1 else nI 0) := m_is (L := 8) (a := 112) (b := 114) (c := 111) h hse hen (by omega) (by omega) (by omega) (by omega) (by omega)
  by_cases c : e - s = 8 ∧ t s = 112 ∧ t (s + 1) = 114 ∧ t (s + 2) = 111
  · have hy : fX6_ends 112 111 115 tape (nI n) (nI s) = some (if t (s + 3) = 112 ∧ t (s + 4) = 111 ∧ t (s + 5) = 115 then nI 1 else nI 0) := m_ends3 (a := 112) (b := 111) (c := 115) h (by omega) (by omega) (by omega) (by omega) (by omega) (by omega)
    rw [if_pos c] at hx
    by_cases d : t (s + 3) = 112 ∧ t (s + 4) = 111 ∧ t (s + 5) = 115
    · rw [if_pos d] at hy
      exact tw _ (fun m => absurd ⟨c, d⟩ m) (fun _ => ⟨hx, hy⟩)
    · rw [if_neg d] at hy
      exact tw _ (fun _ => Or.inr ⟨hx, hy⟩) (fun m => absurd m.2 d)
  · rw [if_neg c] at hx
    exact tw _ (fun _ => Or.inl hx) (fun m => absurd m.1 c)
theorem q_of4 {n : Nat} {t : Nat → Nat} {tape : AI} {s e : Nat} (h : BT n t tape) (hse : s ≤ e) (hen : e ≤ n) : nmP t s e 4 ↔ nq4 t s e := by
  constructor
  · intro hq
    have hL : e - s = 4 := hq.1
    exact ⟨hL, ch_n (h.2 s (by omega)).2 (by omega) (hq.2 0 (by decide)), ch_n (h.2 (s + 1) (by omega)).2 (by omega) (hq.2 1 (by decide)), ch_n (h.2 (s + 2) (by omega)).2 (by omega) (hq.2 2 (by decide)), ch_n (h.2 (s + 3) (by omega)).2 (by omega) (hq.2 3 (by decide))⟩
  · rintro ⟨hL, a0, a1, a2, a3⟩
    refine ⟨hL, fun k hk => ?_⟩
    have hk2 : k < 4 := hk
    have hc : k = 0 ∨ k = 1 ∨ k = 2 ∨ k = 3 := by omega
    rcases hc with rfl | rfl | rfl | rfl
    · show nI (t (s + 0)) = nI 119
      rw [show s + 0 = s from rfl, a0]
    · show nI (t (s + 1)) = nI 97
      rw [a1]
    · show nI (t (s + 2)) = nI 108
      rw [a2]
    · show nI (t (s + 3)) = nI 108
      rw [a3]
theorem tw4 {α : Type} {n : Nat} {t : Nat → Nat} {tape : AI} {s e : Nat} {N T : Option α} (h : BT n t tape) (hse : s ≤ e) (hen : e ≤ n) : (bd1 (fX6_is 4 119 97 108 tape (nI n) (nI e) (nI s)) fun r => if r = 0 then N else bd1 (fX6_ends 108 0 0 tape (nI n) (nI s)) fun r' => if r' = 0 then N else T) = if (e - s = 4 ∧ t s = 119 ∧ t (s + 1) = 97 ∧ t (s + 2) = 108) ∧ t (s + 3) = 108 then T else N := by
  have hx : fX6_is 4 119 97 108 tape (nI n) (nI e) (nI s) = some (if e - s = 4 ∧ t s = 119 ∧ t (s + 1) = 97 ∧ t (s + 2) = 108 then nI 1 else nI 0) := m_is (L := 4) (a := 119) (b := 97) (c := 108) h hse hen (by omega) (by omega) (by omega) (by omega) (by omega)
  by_cases c : e - s = 4 ∧ t s = 119 ∧ t (s + 1) = 97 ∧ t (s + 2) = 108
  · have hy : fX6_ends 108 0 0 tape (nI n) (nI s) = some (if t (s + 3) = 108 then nI 1 else nI 0) := m_ends1 (a := 108) h (by omega) (by omega)
    rw [if_pos c] at hx
    by_cases d : t (s + 3) = 108
    · rw [if_pos d] at hy
      exact tw _ (fun m => absurd ⟨c, d⟩ m) (fun _ => ⟨hx, hy⟩)
    · rw [if_neg d] at hy
      exact tw _ (fun _ => Or.inr ⟨hx, hy⟩) (fun m => absurd m.2 d)
  · rw [if_neg c] at hx
    exact tw _ (fun _ => Or.inl hx) (fun m => absurd m.1 c)
theorem q_of5 {n : Nat} {t : Nat → Nat} {tape : AI} {s e : Nat} (h : BT n t tape) (hse : s ≤ e) (hen : e ≤ n) : nmP t s e 5 ↔ nq5 t s e := by
  constructor
  · intro hq
    have hL : e - s = 4 := hq.1
    exact ⟨hL, ch_n (h.2 s (by omega)).2 (by omega) (hq.2 0 (by decide)), ch_n (h.2 (s + 1) (by omega)).2 (by omega) (hq.2 1 (by decide)), ch_n (h.2 (s + 2) (by omega)).2 (by omega) (hq.2 2 (by decide)), ch_n (h.2 (s + 3) (by omega)).2 (by omega) (hq.2 3 (by decide))⟩
  · rintro ⟨hL, a0, a1, a2, a3⟩
    refine ⟨hL, fun k hk => ?_⟩
    have hk2 : k < 4 := hk
    have hc : k = 0 ∨ k = 1 ∨ k = 2 ∨ k = 3 := by omega
    rcases hc with rfl | rfl | rfl | rfl
    · show nI (t (s + 0)) = nI 119
      rw [show s + 0 = s from rfl, a0]
    · show nI (t (s + 1)) = nI 105
      rw [a1]
    · show nI (t (s + 2)) = nI 110
      rw [a2]
    · show nI (t (s + 3)) = nI 100
      rw [a3]
theorem tw5 {α : Type} {n : Nat} {t : Nat → Nat} {tape : AI} {s e : Nat} {N T : Option α} (h : BT n t tape) (hse : s ≤ e) (hen : e ≤ n) : (bd1 (fX6_is 4 119 105 110 tape (nI n) (nI e) (nI s)) fun r => if r = 0 then N else bd1 (fX6_ends 100 0 0 tape (nI n) (nI s)) fun r' => if r' = 0 then N else T) = if (e - s = 4 ∧ t s = 119 ∧ t (s + 1) = 105 ∧ t (s + 2) = 110) ∧ t (s + 3) = 100 then T else N := by
  have hx : fX6_is 4 119 105 110 tape (nI n) (nI e) (nI s) = some (if e - s = 4 ∧ t s = 119 ∧ t (s + 1) = 105 ∧ t (s + 2) = 110 then nI 1 else nI 0) := m_is (L := 4) (a := 119) (b := 105) (c := 110) h hse hen (by omega) (by omega) (by omega) (by omega) (by omega)
  by_cases c : e - s = 4 ∧ t s = 119 ∧ t (s + 1) = 105 ∧ t (s + 2) = 110
  · have hy : fX6_ends 100 0 0 tape (nI n) (nI s) = some (if t (s + 3) = 100 then nI 1 else nI 0) := m_ends1 (a := 100) h (by omega) (by omega)
    rw [if_pos c] at hx
    by_cases d : t (s + 3) = 100
    · rw [if_pos d] at hy
      exact tw _ (fun m => absurd ⟨c, d⟩ m) (fun _ => ⟨hx, hy⟩)
    · rw [if_neg d] at hy
      exact tw _ (fun _ => Or.inr ⟨hx, hy⟩) (fun m => absurd m.2 d)
  · rw [if_neg c] at hx
    exact tw _ (fun _ => Or.inl hx) (fun m => absurd m.1 c)
theorem q_of6 {n : Nat} {t : Nat → Nat} {tape : AI} {s e : Nat} (h : BT n t tape) (hse : s ≤ e) (hen : e ≤ n) : nmP t s e 6 ↔ nq6 t s e := by
  constructor
  · intro hq
    have hL : e - s = 6 := hq.1
    exact ⟨hL, ch_n (h.2 s (by omega)).2 (by omega) (hq.2 0 (by decide)), ch_n (h.2 (s + 1) (by omega)).2 (by omega) (hq.2 1 (by decide)), ch_n (h.2 (s + 2) (by omega)).2 (by omega) (hq.2 2 (by decide)), ch_n (h.2 (s + 3) (by omega)).2 (by omega) (hq.2 3 (by decide)), ch_n (h.2 (s + 4) (by omega)).2 (by omega) (hq.2 4 (by decide)), ch_n (h.2 (s + 5) (by omega)).2 (by omega) (hq.2 5 (by decide))⟩
  · rintro ⟨hL, a0, a1, a2, a3, a4, a5⟩
    refine ⟨hL, fun k hk => ?_⟩
    have hk2 : k < 6 := hk
    have hc : k = 0 ∨ k = 1 ∨ k = 2 ∨ k = 3 ∨ k = 4 ∨ k = 5 := by omega
    rcases hc with rfl | rfl | rfl | rfl | rfl | rfl
    · show nI (t (s + 0)) = nI 104
      rw [show s + 0 = s from rfl, a0]
    · show nI (t (s + 1)) = nI 101
      rw [a1]
    · show nI (t (s + 2)) = nI 97
      rw [a2]
    · show nI (t (s + 3)) = nI 114
      rw [a3]
    · show nI (t (s + 4)) = nI 101
      rw [a4]
    · show nI (t (s + 5)) = nI 114
      rw [a5]
theorem tw6 {α : Type} {n : Nat} {t : Nat → Nat} {tape : AI} {s e : Nat} {N T : Option α} (h : BT n t tape) (hse : s ≤ e) (hen : e ≤ n) : (bd1 (fX6_is 6 104 101 97 tape (nI n) (nI e) (nI s)) fun r => if r = 0 then N else bd1 (fX6_ends 114 101 114 tape (nI n) (nI s)) fun r' => if r' = 0 then N else T) = if (e - s = 6 ∧ t s = 104 ∧ t (s + 1) = 101 ∧ t (s + 2) = 97) ∧ t (s + 3) = 114 ∧ t (s + 4) = 101 ∧ t (s + 5) = 114 then T else N := by
  have hx : fX6_is 6 104 101 97 tape (nI n) (nI e) (nI s) = some (if e - s = 6 ∧ t s = 104 ∧ t (s + 1) = 101 ∧ t (s + 2) = 97 then nI 1 else nI 0) := m_is (L := 6) (a := 104) (b := 101) (c := 97) h hse hen (by omega) (by omega) (by omega) (by omega) (by omega)
  by_cases c : e - s = 6 ∧ t s = 104 ∧ t (s + 1) = 101 ∧ t (s + 2) = 97
  · have hy : fX6_ends 114 101 114 tape (nI n) (nI s) = some (if t (s + 3) = 114 ∧ t (s + 4) = 101 ∧ t (s + 5) = 114 then nI 1 else nI 0) := m_ends3 (a := 114) (b := 101) (c := 114) h (by omega) (by omega) (by omega) (by omega) (by omega) (by omega)
    rw [if_pos c] at hx
    by_cases d : t (s + 3) = 114 ∧ t (s + 4) = 101 ∧ t (s + 5) = 114
    · rw [if_pos d] at hy
      exact tw _ (fun m => absurd ⟨c, d⟩ m) (fun _ => ⟨hx, hy⟩)
    · rw [if_neg d] at hy
      exact tw _ (fun _ => Or.inr ⟨hx, hy⟩) (fun m => absurd m.2 d)
  · rw [if_neg c] at hx
    exact tw _ (fun _ => Or.inl hx) (fun m => absurd m.1 c)
theorem m_kindNow {n : Nat} {t : Nat → Nat} {tape : AI} {s e : Nat} (h : BT n t tape) (hse : s ≤ e) (hen : e ≤ n) : fX6_kindNow tape (nI n) (nI e) (nI s) = if ((e - s = 5 ∧ t s = 112 ∧ t (s + 1) = 108 ∧ t (s + 2) = 97) ∧ t (s + 3) = 105 ∧ t (s + 4) = 110) then some 0 else if ((e - s = 5 ∧ t s = 115 ∧ t (s + 1) = 109 ∧ t (s + 2) = 97) ∧ t (s + 3) = 108 ∧ t (s + 4) = 108) then some 1 else if ((e - s = 6 ∧ t s = 115 ∧ t (s + 1) = 101 ∧ t (s + 2) = 114) ∧ t (s + 3) = 109 ∧ t (s + 4) = 111 ∧ t (s + 5) = 110) then some 2 else if ((e - s = 8 ∧ t s = 112 ∧ t (s + 1) = 114 ∧ t (s + 2) = 111) ∧ t (s + 3) = 112 ∧ t (s + 4) = 111 ∧ t (s + 5) = 115) then (if t (s + 6) = 97 then (if t (s + 7) = 108 then some 3 else some (-4)) else some (-4)) else some (-4) := by
  rw [fX6_kindNow, tw0 h hse hen, tw1 h hse hen, tw2 h hse hen, tw3 h hse hen]
  by_cases c : ((e - s = 8 ∧ t s = 112 ∧ t (s + 1) = 114 ∧ t (s + 2) = 111) ∧ t (s + 3) = 112 ∧ t (s + 4) = 111 ∧ t (s + 5) = 115)
  · rw [if_pos c, if_pos c]
    have hn := h.1
    have b6 := (h.2 (s + 6) (by omega)).2
    have b7 := (h.2 (s + 7) (by omega)).2
    rw [nm_q, show nI s + 6 = nI (s + 6) from nI_add s 6, m_byte h (by omega), bd1_some]
    by_cases d : t (s + 6) = 97
    · rw [if_pos d, if_pos (show nI (t (s + 6)) = 97 by rw [d]; rfl), nm_q, show nI s + 7 = nI (s + 7) from nI_add s 7, m_byte h (by omega), bd1_some]
      by_cases d7 : t (s + 7) = 108
      · rw [if_pos d7, if_pos (show nI (t (s + 7)) = 108 by rw [d7]; rfl)]
      · rw [if_neg d7, if_neg (show ¬ nI (t (s + 7)) = 108 by rw [show (108 : Int32) = nI 108 from rfl, nI_eq (by omega) (by omega)]; exact d7)]
    · rw [if_neg d, if_neg (show ¬ nI (t (s + 6)) = 97 by rw [show (97 : Int32) = nI 97 from rfl, nI_eq (by omega) (by omega)]; exact d)]
  · rw [if_neg c, if_neg c]
theorem m_lineNow {n : Nat} {t : Nat → Nat} {tape : AI} {s e : Nat} (h : BT n t tape) (hse : s ≤ e) (hen : e ≤ n) : fX6_lineNow tape (nI n) (nI e) (nI s) = if ((e - s = 4 ∧ t s = 119 ∧ t (s + 1) = 97 ∧ t (s + 2) = 108) ∧ t (s + 3) = 108) then some 4 else if ((e - s = 4 ∧ t s = 119 ∧ t (s + 1) = 105 ∧ t (s + 2) = 110) ∧ t (s + 3) = 100) then some 6 else if ((e - s = 6 ∧ t s = 104 ∧ t (s + 1) = 101 ∧ t (s + 2) = 97) ∧ t (s + 3) = 114 ∧ t (s + 4) = 101 ∧ t (s + 5) = 114) then some 5 else bd1 (fX6_kindNow tape (nI n) (nI e) (nI s)) fun r => some r := by
  rw [fX6_lineNow, tw4 h hse hen, tw5 h hse hen, tw6 h hse hen]
/-- the reference's number of a line -/
def cdL (j : Nat) : Int32 := if j = 5 then nI 6 else if j = 6 then nI 5 else if j = 7 then -nI 4 else nI j
theorem line_both {n : Nat} {t : Nat → Nat} {tape : AI} {s e : Nat} {r : RT} (h : BT n t tape) (hc : Cls n t e r) (hs : rSt r = nI s) (hse : s ≤ e) (hen : e ≤ n) : ∃ j, j ≤ 7 ∧ fX2_lineNamed r = some (nI j) ∧ fX6_lineNow tape (nI n) (nI e) (nI s) = some (cdL j) := by
  obtain ⟨j, h7, hj, hk, e1⟩ := c_lineNamed hc hs hse hen
  refine ⟨j, h7, e1, ?_⟩
  rw [m_lineNow h hse hen, m_kindNow h hse hen]
  have hcs : j = 0 ∨ j = 1 ∨ j = 2 ∨ j = 3 ∨ j = 4 ∨ j = 5 ∨ j = 6 ∨ j = 7 := by omega
  rcases hcs with rfl | rfl | rfl | rfl | rfl | rfl | rfl | rfl
  · have hq := (q_of0 h hse hen).mp (hj (by omega))
    unfold nq0 at hq
    rw [if_neg (by omega), if_neg (by omega), if_neg (by omega), if_pos (by omega)]
    rfl
  · have hq := (q_of1 h hse hen).mp (hj (by omega))
    unfold nq1 at hq
    rw [if_neg (by omega), if_neg (by omega), if_neg (by omega), if_neg (by omega), if_pos (by omega)]
    rfl
  · have hq := (q_of2 h hse hen).mp (hj (by omega))
    unfold nq2 at hq
    rw [if_neg (by omega), if_neg (by omega), if_neg (by omega), if_neg (by omega), if_neg (by omega), if_pos (by omega)]
    rfl
  · have hq := (q_of3 h hse hen).mp (hj (by omega))
    unfold nq3 at hq
    rw [if_neg (by omega), if_neg (by omega), if_neg (by omega), if_neg (by omega), if_neg (by omega), if_neg (by omega), if_pos (by omega), if_pos (by omega), if_pos (by omega)]
    rfl
  · have hq := (q_of4 h hse hen).mp (hj (by omega))
    unfold nq4 at hq
    rw [if_pos (by omega)]
    rfl
  · have hq := (q_of5 h hse hen).mp (hj (by omega))
    unfold nq5 at hq
    rw [if_neg (by omega), if_pos (by omega)]
    rfl
  · have hq := (q_of6 h hse hen).mp (hj (by omega))
    unfold nq6 at hq
    rw [if_neg (by omega), if_neg (by omega), if_pos (by omega)]
    rfl
  · have z0 := fun q => hk 0 (by omega) ((q_of0 h hse hen).mpr q)
    have z1 := fun q => hk 1 (by omega) ((q_of1 h hse hen).mpr q)
    have z2 := fun q => hk 2 (by omega) ((q_of2 h hse hen).mpr q)
    have z3 := fun q => hk 3 (by omega) ((q_of3 h hse hen).mpr q)
    have z4 := fun q => hk 4 (by omega) ((q_of4 h hse hen).mpr q)
    have z5 := fun q => hk 5 (by omega) ((q_of5 h hse hen).mpr q)
    have z6 := fun q => hk 6 (by omega) ((q_of6 h hse hen).mpr q)
    unfold nq0 at z0
    unfold nq1 at z1
    unfold nq2 at z2
    unfold nq3 at z3
    unfold nq4 at z4
    unfold nq5 at z5
    unfold nq6 at z6
    rw [if_neg (fun m => z4 (by omega)), if_neg (fun m => z5 (by omega)), if_neg (fun m => z6 (by omega)), if_neg (fun m => z0 (by omega)), if_neg (fun m => z1 (by omega)), if_neg (fun m => z2 (by omega))]
    by_cases c : ((e - s = 8 ∧ t s = 112 ∧ t (s + 1) = 114 ∧ t (s + 2) = 111) ∧ t (s + 3) = 112 ∧ t (s + 4) = 111 ∧ t (s + 5) = 115)
    · rw [if_pos c]
      by_cases d : t (s + 6) = 97
      · rw [if_pos d, if_neg (fun m => z3 (by omega))]; rfl
      · rw [if_neg d]; rfl
    · rw [if_neg c]; rfl
