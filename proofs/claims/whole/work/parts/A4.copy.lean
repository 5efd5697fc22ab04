-- copyFrom, once more: behind it the one coast is the other
theorem va_at_i {D : va_G} {cl : List vw_C} {g : Gx} {a n : Nat} {f f' : AI} {H : Heap} (h : ∀ k, k < n → f k = f' k) (hp : va_at D cl (arI g a n f) H) : va_at D cl (arI g a n f') H := by
  have e : vp_cell (g.2 0) (n, .inl f) = vp_cell (g.2 0) (n, .inl f') := by
    rw [vp_cell_i, vp_cell_i]
    unfold arrV
    congr 1
    congr 1
    funext j
    show Value.int (f j.val) = Value.int (f' j.val)
    rw [h j.val j.isLt]
  show H[a]? = some (vp_cell (g.2 0) (n, .inl f'))
  rw [← e]
  exact hp
/-- two coasts that are alike in all their places -/
def cEq (c o : CT) : Prop := cW c = cW o ∧ cSa c = cSa o ∧ cHe c = cHe o ∧ cSe c = cSe o ∧ (∀ k, k < 10 → cWi c k = cWi o k) ∧ (∀ i, i < 5 → ∀ k, k < 5 → cTo c i k = cTo o i k) ∧ (∀ k, k < 4 → cAt c k = cAt o k) ∧ (∀ k, k < 6 → cSs c k = cSs o k) ∧ (∀ k, k < 6 → cSp c k = cSp o k)
theorem cEq_P {g : Gx} {b : Nat → Nat} {c o : CT} {H : Heap} (h : cEq c o) (hp : va_P g.1 vwCl (wC g b c) H) : va_P g.1 vwCl (wC g b o) H := by
  obtain ⟨h1, h2, h3, h4, h5, h6, h7, h8, h9⟩ := h
  intro k q hq
  have hk : k < 11 := by
    have := (List.getElem?_eq_some_iff.mp hq).1
    exact this
  have h0 := hp 0 _ rfl
  rcases (show k = 0 ∨ k = 1 ∨ k = 2 ∨ k = 3 ∨ k = 4 ∨ k = 5 ∨ k = 6 ∨ k = 7 ∨ k = 8 ∨ k = 9 ∨ k = 10 by omega) with e | e | e | e | e | e | e | e | e | e | e <;> subst e <;> cases hq
  · have g1 : c.1 = o.1 := h1
    have g2 : c.2.2.2.1 = o.2.2.2.1 := h2
    have g3 : c.2.2.2.2.2.1 = o.2.2.2.2.2.1 := h3
    have g4 : c.2.2.2.2.2.2.2.2 = o.2.2.2.2.2.2.2.2 := h4
    rw [g1, g2, g3, g4] at h0
    exact h0
  · exact va_at_i h5 (hp 1 _ rfl)
  · exact hp 2 _ rfl
  · exact va_at_i (h6 0 (by decide)) (hp 3 _ rfl)
  · exact va_at_i (h6 1 (by decide)) (hp 4 _ rfl)
  · exact va_at_i (h6 2 (by decide)) (hp 5 _ rfl)
  · exact va_at_i (h6 3 (by decide)) (hp 6 _ rfl)
  · exact va_at_i (h6 4 (by decide)) (hp 7 _ rfl)
  · exact va_at_i h7 (hp 8 _ rfl)
  · exact va_at_i h8 (hp 9 _ rfl)
  · exact va_at_i h9 (hp 10 _ rfl)
theorem wC_len (g : Gx) (b : Nat → Nat) (c : CT) : (wC g b c).length = 11 := rfl
theorem wC_fst (g : Gx) (b : Nat → Nat) (c o : CT) : (wC g b c).map Prod.fst = (wC g b o).map Prod.fst := rfl
theorem va_P.left {D : va_G} {cl : List vw_C} {w1 w2 : va_W} {H : Heap} (h : va_P D cl (w1 ++ w2) H) : va_P D cl w1 H := fun k q hq => h k q (by
  rw [List.getElem?_append_left (List.getElem?_eq_some_iff.mp hq).1]; exact hq)
theorem va_P.right {D : va_G} {cl : List vw_C} {w1 w2 : va_W} {H : Heap} (h : va_P D cl (w1 ++ w2) H) : va_P D cl w2 H := fun k q hq => h (w1.length + k) q (by
  rw [List.getElem?_append_right (Nat.le_add_right _ _), Nat.add_sub_cancel_left]; exact hq)
theorem va_D_fst {A : Nat → Prop} {w1 w2 : va_W} (e : w1.map Prod.fst = w2.map Prod.fst) (h : va_D A w1) : va_D A w2 := by
  have at' : ∀ (k : Nat) (q : Nat × va_E), w2[k]? = some q → ∃ p, w1[k]? = some p ∧ p.1 = q.1 := by
    intro k q hq
    have h1 : (w2.map Prod.fst)[k]? = some q.1 := by rw [List.getElem?_map, hq]; rfl
    rw [← e, List.getElem?_map] at h1
    cases hp : w1[k]? with
    | none => rw [hp] at h1; cases h1
    | some p => rw [hp] at h1; exact ⟨p, rfl, Option.some.inj h1⟩
  refine ⟨fun i j p q hp hq hpq => ?_, fun k q hq => ?_⟩
  · obtain ⟨p', h1, h2⟩ := at' i p hp
    obtain ⟨q', h3, h4⟩ := at' j q hq
    exact h.1 i j p' q' h1 h3 (by rw [h2, h4, hpq])
  · obtain ⟨q', h3, h4⟩ := at' k q hq
    rw [← h4]
    exact h.2 k q' h3
theorem nI_clamp5 {v : Int32} {k : Nat} (hk : k < 5) (e : v = nI k) : v.toNatClampNeg = k := by rw [e]; exact nI_clamp (by omega)
theorem copy_loop (o : CT) (K : Int32 → CT → Option CT) : ∀ (k n : Nat) (v : Int32) (c : CT), k ≤ 5 → 6 ≤ n + k → v = nI k → (∀ i, i < k → ∀ j, j < 5 → cTo c i j = cTo o i j) → ∃ (v' : Int32) (c' : CT), fX0_copyFrom_L49 o K n v c = K v' c' ∧ (∀ i, i < 5 → ∀ j, j < 5 → cTo c' i j = cTo o i j) ∧ cW c' = cW c ∧ cSa c' = cSa c ∧ cHe c' = cHe c ∧ cSe c' = cSe c ∧ cWi c' = cWi c ∧ cAt c' = cAt c ∧ cSs c' = cSs c ∧ cSp c' = cSp c := by
  intro k
  induction hd : 5 - k generalizing k with
  | zero =>
    intro n v c hk hn hv hc
    have : k = 5 := by omega
    subst this
    cases n with
    | zero => omega
    | succ n =>
      rw [fX0_copyFrom_L49, if_pos (by rw [hv]; decide)]
      exact ⟨v, c, rfl, hc, rfl, rfl, rfl, rfl, rfl, rfl, rfl, rfl⟩
  | succ d ih =>
    intro n v c hk hn hv hc
    have hk5 : k < 5 := by omega
    cases n with
    | zero => omega
    | succ n =>
      have hcl := nI_clamp5 hk5 hv
      have hin : ¬ (v < 0 ∨ 5 ≤ v.toNatClampNeg) := by rw [hv]; exact nI_in hk5 (by decide)
      have h5 : ¬ (5 : Int32) ≤ v := by rw [hv]; exact nI_ge (b := 5) hk5 (by decide)
      rw [fX0_copyFrom_L49, if_neg h5]
      unfold gd
      rw [if_neg hin, if_neg hin]
      unfold nm
      obtain ⟨v', c', e, h1, h2⟩ := ih (k + 1) (by omega) n (v + 1) (cTo' c (va_up (cTo c) v.toNatClampNeg (va_cpy (cTo o v.toNatClampNeg) (cTo c v.toNatClampNeg) 0 0 5))) (by omega) (by omega) (by rw [hv]; exact nI_1 k) (by
        intro i hi j hj
        show va_up (cTo c) v.toNatClampNeg _ i j = _
        rw [hcl]
        by_cases e : i = k
        · subst e
          unfold va_up
          rw [if_pos rfl]
          exact (pk_cpy_in (Nat.zero_le j) (by omega)).trans (by rw [Nat.zero_add, Nat.sub_zero])
        · unfold va_up
          rw [if_neg e]
          exact hc i (by omega) j hj)
      exact ⟨v', c', e, h1, h2⟩
theorem copy_ok (c o : CT) : ∃ c1, fX0_copyFrom c o = some c1 ∧ cEq c1 o := by
  unfold fX0_copyFrom nm
  obtain ⟨v', c', e, h1, h2, h3, h4, h5, h6, h7, h8, h9⟩ := copy_loop o (fun v6 c_7 =>
    nm (cAt' c_7 (va_cpy (cAt o) (cAt c_7) 0 0 4)) fun c_16 =>
    nm (cSs' c_16 (va_cpy (cSs o) (cSs c_16) 0 0 6)) fun c_17 =>
    nm (cSp' c_17 (va_cpy (cSp o) (cSp c_17) 0 0 6)) fun c_18 =>
    some c_18) 0 4096 0 (cWi' (cSe' (cHe' (cSa' (cW' c (cW o)) (cSa o)) (cHe o)) (cSe o)) (va_cpy (cWi o) (cWi c) 0 0 10)) (by decide) (by decide) rfl (fun i hi => by omega)
  have cp : ∀ (f g : AI) (n k : Nat), k < n → va_cpy f g 0 0 n k = f k := fun f g n k hk => (pk_cpy_in (Nat.zero_le k) (by omega)).trans (by rw [Nat.zero_add, Nat.sub_zero])
  refine ⟨_, e, h2, h3, h4, h5, fun k hk => ?_, h1, fun k hk => cp _ _ _ _ hk, fun k hk => cp _ _ _ _ hk, fun k hk => cp _ _ _ _ hk⟩
  show cWi c' k = _
  rw [h6]
  exact cp _ _ _ _ hk
theorem kX0_copyTo (l : Launch) (g : Gx) (sz : Nat) (a_c a_o : Nat → Nat) (c : CT) (o : CT) (c_o : CT) (hf : fX0_copyTo c o = some c_o) : Met l yX0_copyFrom (cdX0_copyFrom :: wsL_law) rmX0_copyFrom (va_Pc [.ref (a_c 0), .ref (a_o 0)] (RWp g sz (wC g a_c c ++ wC g a_o o))) (va_Qv (fun _ : Unit => True) (fun _ => RWq g (va_A (wC g a_c c ++ wC g a_o o) sz) (wC g a_c c_o ++ wC g a_o o)) (va_A (wC g a_c c ++ wC g a_o o) sz)) 0 0 (va_A (wC g a_c c ++ wC g a_o o) sz) := by
  obtain ⟨c1, h1, h2⟩ := copy_ok c o
  cases hf
  refine (kX0_copyFrom l g sz a_c a_o c o c1 h1).mono (fun _ _ h => h) (fun _ _ _ _ _ h => h) ?_
  intro a s oc t _ hq
  obtain ⟨⟨⟨u, e1, e2, hP, hK, hD⟩, hF⟩, hL⟩ := hq
  exact ⟨⟨⟨u, e1, e2, va_P.app (cEq_P h2 hP.left) hP.right, hK, va_D_fst (by rw [List.map_append, List.map_append, wC_fst g a_c c1 o]) hD⟩, hF⟩, hL⟩
