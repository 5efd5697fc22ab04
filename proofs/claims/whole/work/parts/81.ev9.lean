-- read, sheet by sheet
theorem nng0 {b : Nat} (h0 : 0 < b) (hb : b < 2 ^ 31) : (nI 0 ≤ -nI b) = False := nI_len (by omega) h0 hb
theorem read_lk0 {K : KT} {h : Int32} {k q m : Nat} {s : ST} {lanes sizes cells : AI} (v : VT) (nw : CT) (hk : k < 4) (hq : q < 3) (hm : m ≤ 13) (r : RS k s lanes sizes cells) (p3 : Int32) (bf st0 : AI) (torn : Int32) (A : Int32 → Int32 → Int32 → CT → Option (Int32 × VT × CT × CT)) (B : Int32 → Int32 → Int32 → AI → Option (Int32 × AI × Int32 × AI)) (P : Option (Int32 × VT × CT × CT) → Option (Int32 × AI × Int32 × AI) → Prop) (hE : ∀ (a fl c : Nat) (K' : KT) (tr : CT) (st' : AI), fl ≤ 3 → c ≤ 13 → WFk K' → RCc K' tr → RCm K' st' 0 h → (∀ j, 61 ≤ j → st' j = st0 j) → P (A (nI a) (nI fl) (nI c) tr) (B (nI a) (nI c) (nI fl) st')) (hX : ∀ (i : Nat) (tr : CT) (st' : AI), i < 13 → (∀ j, 61 ≤ j → st' j = st0 j) → P (some (-nI (20 + i), v, nw, tr)) (some (-nI (20 + i), fa_fill bf st' 61, torn, bf))) (F : Nat) (hF : 13 < F) (tr : CT) (h1 : WFk K) (h2 : RCc K tr) (h3 : RCm K st0 0 h) : P (fX5_read_L60 v nw s (nI q) p3 (nI m) A F 0 0 0 tr) (fX6_read_L62 lanes sizes cells torn (nI k) (nI q) p3 (nI m) bf B F 0 0 0 st0) := by
  refine lock (fun n (t : Int32 × Int32 × Int32 × CT) => fX5_read_L60 v nw s (nI q) p3 (nI m) A n t.1 t.2.1 t.2.2.1 t.2.2.2) (fun n (t : Int32 × Int32 × Int32 × AI) => fX6_read_L62 lanes sizes cells torn (nI k) (nI q) p3 (nI m) bf B n t.1 t.2.1 t.2.2.1 t.2.2.2) (fun i x y => ∃ (fl c : Nat) (K' : KT), fl ≤ 3 ∧ c ≤ i ∧ WFk K' ∧ RCc K' x.2.2.2 ∧ RCm K' y.2.2.2 0 h ∧ (∀ j, 61 ≤ j → y.2.2.2 j = st0 j) ∧ x.1 = nI i ∧ x.2.1 = nI fl ∧ x.2.2.1 = nI c ∧ y.1 = nI i ∧ y.2.1 = nI c ∧ y.2.2.1 = nI fl) P m ?_ ?_ m 0 F F (0, 0, 0, tr) (0, 0, 0, st0) (by omega) (by omega) (by omega) ⟨0, 0, K, by omega, by omega, h1, h2, h3, fun _ _ => rfl, rfl, rfl, rfl, rfl, rfl, rfl⟩
  · rintro i ⟨a1, a2, a3, tr⟩ ⟨b1, b2, b3, st⟩ n n' hi ⟨fl, c, K', e1, e2, e3, e4, e5, e6, e7, e8, e9, e10, e11, e12⟩ ih
    simp only at e4 e5 e6 e7 e8 e9 e10 e11 e12 ⊢
    subst e7 e8 e9 e10 e11 e12
    obtain ⟨G, hG⟩ : ∃ G, G = 4096 := ⟨_, rfl⟩
    rw [fX5_read_L60, fX6_read_L62, ← hG]
    by_cases cf : fl = 0
    · subst cf
      rcases three hk hq (show i ≤ 12 by omega) r p3 G (by omega) with ⟨b, g1, g2, g3, a, g4⟩ | ⟨j, g1, g2, g3, g4⟩
      · simp (disch := omega) only [nm_q, bd1_some, bd2_some, bd3_some, bd4_some, bd5_some, bd6_some, bd7_some, bd8_some, bd9_some, bd10_some, bd11_some, bd1_ite, ↓reduceIte, gd_nI, gb_nI, gb_ite, li, liL, nI_add, nI_1, pk_sub, pk_mul, pk_div, nI_clamp, nI_eq, nI_leI, nI_ltI, nI_eqn, nI_neq, nI_nn, nI_len, nI_ltn, ngI_le, ngI_lt, nng, sm10, sm8, shr_n, shl_n, and_1, fa_or, leT, leF, ltT, ltF, eqT, eqF, g3, g4]
        exact ih (nI (i + 1), nI b, nI c, tr) (nI (i + 1), nI c, nI b, st) ⟨b, c, K', by omega, by omega, e3, e4, e5, e6, rfl, rfl, rfl, rfl, rfl, rfl⟩
      · have hidx : nI (40 * k) + p3 + nI (3 * i) = nI (40 * k + j) := by rw [Int32.add_assoc, g2, nI_add]
        have c0 := r.2 j (by omega)
        have c1 := r.2 (j + 1) (by omega)
        have c2 := r.2 (j + 2) (by omega)
        rw [← Nat.add_assoc] at c1 c2
        rcases say_both e3 e4 e5 (sCe s j) (sCe s (j + 1)) (sCe s (j + 2)) with ⟨b, b1, b2, f1, f2⟩ | ⟨K2, c', st', k1, k2, k3, k4, k5, _, f1, f2⟩
        · simp (disch := omega) only [nm_q, bd1_some, bd2_some, bd3_some, bd4_some, bd5_some, bd6_some, bd7_some, bd8_some, bd9_some, bd10_some, bd11_some, bd1_ite, ↓reduceIte, gd_nI, gb_nI, gb_ite, li, liL, nI_add, nI_1, pk_sub, pk_mul, pk_div, nI_clamp, nI_eq, nI_leI, nI_ltI, nI_eqn, nI_neq, nI_nn, nI_len, nI_ltn, ngI_le, ngI_lt, nng, sm10, sm8, shr_n, shl_n, and_1, fa_or, leT, leF, ltT, ltF, eqT, eqF, g2, g4, hidx, c_cellAt, c0, c1, c2, f1, f2, nng0, m_undo, ng_sub] at g3 ⊢
          simp (disch := omega) only [g3, nm_q, bd1_some, bd2_some, bd3_some, bd4_some, bd5_some, bd6_some, bd7_some, bd8_some, bd9_some, bd10_some, bd11_some, bd1_ite, ↓reduceIte, gd_nI, gb_nI, gb_ite, li, liL, nI_add, nI_1, pk_sub, pk_mul, pk_div, nI_clamp, nI_eq, nI_leI, nI_ltI, nI_eqn, nI_neq, nI_nn, nI_len, nI_ltn, ngI_le, ngI_lt, nng, sm10, sm8, shr_n, shl_n, and_1, fa_or, leT, leF, ltT, ltF, eqT, eqF, c_cellAt, f1, nng0, ng_sub]
          exact hX i tr st (by omega) e6
        · simp (disch := omega) only [nm_q, bd1_some, bd2_some, bd3_some, bd4_some, bd5_some, bd6_some, bd7_some, bd8_some, bd9_some, bd10_some, bd11_some, bd1_ite, ↓reduceIte, gd_nI, gb_nI, gb_ite, li, liL, nI_add, nI_1, pk_sub, pk_mul, pk_div, nI_clamp, nI_eq, nI_leI, nI_ltI, nI_eqn, nI_neq, nI_nn, nI_len, nI_ltn, ngI_le, ngI_lt, nng, sm10, sm8, shr_n, shl_n, and_1, fa_or, leT, leF, ltT, ltF, eqT, eqF, g2, g4, hidx, c_cellAt, c0, c1, c2, f1, f2] at g3 ⊢
          simp (disch := omega) only [g3, nm_q, bd1_some, bd2_some, bd3_some, bd4_some, bd5_some, bd6_some, bd7_some, bd8_some, bd9_some, bd10_some, bd11_some, bd1_ite, ↓reduceIte, gd_nI, gb_nI, gb_ite, li, liL, nI_add, nI_1, pk_sub, pk_mul, pk_div, nI_clamp, nI_eq, nI_leI, nI_ltI, nI_eqn, nI_neq, nI_nn, nI_len, nI_ltn, ngI_le, ngI_lt, nng, sm10, sm8, shr_n, shl_n, and_1, fa_or, leT, leF, ltT, ltF, eqT, eqF, c_cellAt, f1]
          exact ih (nI (i + 1), nI 0, nI (c + 1), c') (nI (i + 1), nI (c + 1), nI 0, st') ⟨0, c + 1, K2, by omega, by omega, k1, k2, k3, fun j hj => by rw [← e6 j hj]; exact k4 j hj, rfl, rfl, rfl, rfl, rfl, rfl⟩
    · simp (disch := omega) only [nm_q, bd1_some, bd2_some, bd3_some, bd4_some, bd5_some, bd6_some, bd7_some, bd8_some, bd9_some, bd10_some, bd11_some, bd1_ite, ↓reduceIte, gd_nI, gb_nI, gb_ite, li, liL, nI_add, nI_1, pk_sub, pk_mul, pk_div, nI_clamp, nI_eq, nI_leI, nI_ltI, nI_eqn, nI_neq, nI_nn, nI_len, nI_ltn, ngI_le, ngI_lt, nng, sm10, sm8, shr_n, shl_n, and_1, fa_or, leT, leF, ltT, ltF, eqT, eqF]
      exact hE i fl c K' tr st e1 (by omega) e3 e4 e5 e6
  · rintro ⟨a1, a2, a3, tr⟩ ⟨b1, b2, b3, st⟩ n n' ⟨fl, c, K', e1, e2, e3, e4, e5, e6, e7, e8, e9, e10, e11, e12⟩
    simp only at e4 e5 e6 e7 e8 e9 e10 e11 e12 ⊢
    subst e7 e8 e9 e10 e11 e12
    rw [fX5_read_L60, fX6_read_L62]
    simp (disch := omega) only [nm_q, bd1_some, bd2_some, bd3_some, bd4_some, bd5_some, bd6_some, bd7_some, bd8_some, bd9_some, bd10_some, bd11_some, bd1_ite, ↓reduceIte, gd_nI, gb_nI, gb_ite, li, liL, nI_add, nI_1, pk_sub, pk_mul, pk_div, nI_clamp, nI_eq, nI_leI, nI_ltI, nI_eqn, nI_neq, nI_nn, nI_len, nI_ltn, ngI_le, ngI_lt, nng, sm10, sm8, shr_n, shl_n, and_1, fa_or, leT, leF, ltT, ltF, eqT, eqF]
    exact hE m fl c K' tr st e1 (by omega) e3 e4 e5 e6
theorem read_lk1 {K : KT} {h : Int32} {k q m : Nat} {s : ST} {lanes sizes cells : AI} (v : VT) (nw : CT) (hk : k < 4) (hq : q < 3) (hm : m ≤ 13) (r : RS k s lanes sizes cells) (p3 : Int32) (bf st0 : AI) (torn : Int32) (A : Int32 → Int32 → Int32 → CT → Option (Int32 × VT × CT × CT)) (B : Int32 → Int32 → Int32 → AI → Option (Int32 × AI × Int32 × AI)) (P : Option (Int32 × VT × CT × CT) → Option (Int32 × AI × Int32 × AI) → Prop) (hE : ∀ (a fl c : Nat) (K' : KT) (tr : CT) (st' : AI), fl ≤ 3 → c ≤ 13 → WFk K' → RCc K' tr → RCm K' st' 0 h → (∀ j, 61 ≤ j → st' j = st0 j) → P (A (nI a) (nI fl) (nI c) tr) (B (nI a) (nI c) (nI fl) st')) (hX : ∀ (i : Nat) (tr : CT) (st' : AI), i < 13 → (∀ j, 61 ≤ j → st' j = st0 j) → P (some (-nI (20 + i), v, nw, tr)) (some (-nI (20 + i), fa_fill bf st' 61, torn, bf))) (F : Nat) (hF : 13 < F) (tr : CT) (h1 : WFk K) (h2 : RCc K tr) (h3 : RCm K st0 0 h) : P (fX5_read_L60b1 v nw s (nI q) p3 (nI m) A F 0 0 0 tr) (fX6_read_L62 lanes sizes cells torn (nI k) (nI q) p3 (nI m) bf B F 0 0 0 st0) := by
  refine lock (fun n (t : Int32 × Int32 × Int32 × CT) => fX5_read_L60b1 v nw s (nI q) p3 (nI m) A n t.1 t.2.1 t.2.2.1 t.2.2.2) (fun n (t : Int32 × Int32 × Int32 × AI) => fX6_read_L62 lanes sizes cells torn (nI k) (nI q) p3 (nI m) bf B n t.1 t.2.1 t.2.2.1 t.2.2.2) (fun i x y => ∃ (fl c : Nat) (K' : KT), fl ≤ 3 ∧ c ≤ i ∧ WFk K' ∧ RCc K' x.2.2.2 ∧ RCm K' y.2.2.2 0 h ∧ (∀ j, 61 ≤ j → y.2.2.2 j = st0 j) ∧ x.1 = nI i ∧ x.2.1 = nI fl ∧ x.2.2.1 = nI c ∧ y.1 = nI i ∧ y.2.1 = nI c ∧ y.2.2.1 = nI fl) P m ?_ ?_ m 0 F F (0, 0, 0, tr) (0, 0, 0, st0) (by omega) (by omega) (by omega) ⟨0, 0, K, by omega, by omega, h1, h2, h3, fun _ _ => rfl, rfl, rfl, rfl, rfl, rfl, rfl⟩
  · rintro i ⟨a1, a2, a3, tr⟩ ⟨b1, b2, b3, st⟩ n n' hi ⟨fl, c, K', e1, e2, e3, e4, e5, e6, e7, e8, e9, e10, e11, e12⟩ ih
    simp only at e4 e5 e6 e7 e8 e9 e10 e11 e12 ⊢
    subst e7 e8 e9 e10 e11 e12
    obtain ⟨G, hG⟩ : ∃ G, G = 4096 := ⟨_, rfl⟩
    rw [fX5_read_L60b1, fX6_read_L62, ← hG]
    by_cases cf : fl = 0
    · subst cf
      rcases three hk hq (show i ≤ 12 by omega) r p3 G (by omega) with ⟨b, g1, g2, g3, a, g4⟩ | ⟨j, g1, g2, g3, g4⟩
      · simp (disch := omega) only [nm_q, bd1_some, bd2_some, bd3_some, bd4_some, bd5_some, bd6_some, bd7_some, bd8_some, bd9_some, bd10_some, bd11_some, bd1_ite, ↓reduceIte, gd_nI, gb_nI, gb_ite, li, liL, nI_add, nI_1, pk_sub, pk_mul, pk_div, nI_clamp, nI_eq, nI_leI, nI_ltI, nI_eqn, nI_neq, nI_nn, nI_len, nI_ltn, ngI_le, ngI_lt, nng, sm10, sm8, shr_n, shl_n, and_1, fa_or, leT, leF, ltT, ltF, eqT, eqF, g3, g4]
        exact ih (nI (i + 1), nI b, nI c, tr) (nI (i + 1), nI c, nI b, st) ⟨b, c, K', by omega, by omega, e3, e4, e5, e6, rfl, rfl, rfl, rfl, rfl, rfl⟩
      · have hidx : nI (40 * k) + p3 + nI (3 * i) = nI (40 * k + j) := by rw [Int32.add_assoc, g2, nI_add]
        have c0 := r.2 j (by omega)
        have c1 := r.2 (j + 1) (by omega)
        have c2 := r.2 (j + 2) (by omega)
        rw [← Nat.add_assoc] at c1 c2
        rcases say_both e3 e4 e5 (sCe s j) (sCe s (j + 1)) (sCe s (j + 2)) with ⟨b, b1, b2, f1, f2⟩ | ⟨K2, c', st', k1, k2, k3, k4, k5, _, f1, f2⟩
        · simp (disch := omega) only [nm_q, bd1_some, bd2_some, bd3_some, bd4_some, bd5_some, bd6_some, bd7_some, bd8_some, bd9_some, bd10_some, bd11_some, bd1_ite, ↓reduceIte, gd_nI, gb_nI, gb_ite, li, liL, nI_add, nI_1, pk_sub, pk_mul, pk_div, nI_clamp, nI_eq, nI_leI, nI_ltI, nI_eqn, nI_neq, nI_nn, nI_len, nI_ltn, ngI_le, ngI_lt, nng, sm10, sm8, shr_n, shl_n, and_1, fa_or, leT, leF, ltT, ltF, eqT, eqF, g2, g4, hidx, c_cellAt, c0, c1, c2, f1, f2, nng0, m_undo, ng_sub] at g3 ⊢
          simp (disch := omega) only [g3, nm_q, bd1_some, bd2_some, bd3_some, bd4_some, bd5_some, bd6_some, bd7_some, bd8_some, bd9_some, bd10_some, bd11_some, bd1_ite, ↓reduceIte, gd_nI, gb_nI, gb_ite, li, liL, nI_add, nI_1, pk_sub, pk_mul, pk_div, nI_clamp, nI_eq, nI_leI, nI_ltI, nI_eqn, nI_neq, nI_nn, nI_len, nI_ltn, ngI_le, ngI_lt, nng, sm10, sm8, shr_n, shl_n, and_1, fa_or, leT, leF, ltT, ltF, eqT, eqF, c_cellAt, f1, nng0, ng_sub]
          exact hX i tr st (by omega) e6
        · simp (disch := omega) only [nm_q, bd1_some, bd2_some, bd3_some, bd4_some, bd5_some, bd6_some, bd7_some, bd8_some, bd9_some, bd10_some, bd11_some, bd1_ite, ↓reduceIte, gd_nI, gb_nI, gb_ite, li, liL, nI_add, nI_1, pk_sub, pk_mul, pk_div, nI_clamp, nI_eq, nI_leI, nI_ltI, nI_eqn, nI_neq, nI_nn, nI_len, nI_ltn, ngI_le, ngI_lt, nng, sm10, sm8, shr_n, shl_n, and_1, fa_or, leT, leF, ltT, ltF, eqT, eqF, g2, g4, hidx, c_cellAt, c0, c1, c2, f1, f2] at g3 ⊢
          simp (disch := omega) only [g3, nm_q, bd1_some, bd2_some, bd3_some, bd4_some, bd5_some, bd6_some, bd7_some, bd8_some, bd9_some, bd10_some, bd11_some, bd1_ite, ↓reduceIte, gd_nI, gb_nI, gb_ite, li, liL, nI_add, nI_1, pk_sub, pk_mul, pk_div, nI_clamp, nI_eq, nI_leI, nI_ltI, nI_eqn, nI_neq, nI_nn, nI_len, nI_ltn, ngI_le, ngI_lt, nng, sm10, sm8, shr_n, shl_n, and_1, fa_or, leT, leF, ltT, ltF, eqT, eqF, c_cellAt, f1]
          exact ih (nI (i + 1), nI 0, nI (c + 1), c') (nI (i + 1), nI (c + 1), nI 0, st') ⟨0, c + 1, K2, by omega, by omega, k1, k2, k3, fun j hj => by rw [← e6 j hj]; exact k4 j hj, rfl, rfl, rfl, rfl, rfl, rfl⟩
    · simp (disch := omega) only [nm_q, bd1_some, bd2_some, bd3_some, bd4_some, bd5_some, bd6_some, bd7_some, bd8_some, bd9_some, bd10_some, bd11_some, bd1_ite, ↓reduceIte, gd_nI, gb_nI, gb_ite, li, liL, nI_add, nI_1, pk_sub, pk_mul, pk_div, nI_clamp, nI_eq, nI_leI, nI_ltI, nI_eqn, nI_neq, nI_nn, nI_len, nI_ltn, ngI_le, ngI_lt, nng, sm10, sm8, shr_n, shl_n, and_1, fa_or, leT, leF, ltT, ltF, eqT, eqF]
      exact hE i fl c K' tr st e1 (by omega) e3 e4 e5 e6
  · rintro ⟨a1, a2, a3, tr⟩ ⟨b1, b2, b3, st⟩ n n' ⟨fl, c, K', e1, e2, e3, e4, e5, e6, e7, e8, e9, e10, e11, e12⟩
    simp only at e4 e5 e6 e7 e8 e9 e10 e11 e12 ⊢
    subst e7 e8 e9 e10 e11 e12
    rw [fX5_read_L60b1, fX6_read_L62]
    simp (disch := omega) only [nm_q, bd1_some, bd2_some, bd3_some, bd4_some, bd5_some, bd6_some, bd7_some, bd8_some, bd9_some, bd10_some, bd11_some, bd1_ite, ↓reduceIte, gd_nI, gb_nI, gb_ite, li, liL, nI_add, nI_1, pk_sub, pk_mul, pk_div, nI_clamp, nI_eq, nI_leI, nI_ltI, nI_eqn, nI_neq, nI_nn, nI_len, nI_ltn, ngI_le, ngI_lt, nng, sm10, sm8, shr_n, shl_n, and_1, fa_or, leT, leF, ltT, ltF, eqT, eqF]
    exact hE m fl c K' tr st e1 (by omega) e3 e4 e5 e6
theorem read_lk2 {K : KT} {h : Int32} {k q m : Nat} {s : ST} {lanes sizes cells : AI} (v : VT) (nw : CT) (hk : k < 4) (hq : q < 3) (hm : m ≤ 13) (r : RS k s lanes sizes cells) (p3 : Int32) (bf st0 : AI) (torn : Int32) (A : Int32 → Int32 → Int32 → CT → Option (Int32 × VT × CT × CT)) (B : Int32 → Int32 → Int32 → AI → Option (Int32 × AI × Int32 × AI)) (P : Option (Int32 × VT × CT × CT) → Option (Int32 × AI × Int32 × AI) → Prop) (hE : ∀ (a fl c : Nat) (K' : KT) (tr : CT) (st' : AI), fl ≤ 3 → c ≤ 13 → WFk K' → RCc K' tr → RCm K' st' 0 h → (∀ j, 61 ≤ j → st' j = st0 j) → P (A (nI a) (nI fl) (nI c) tr) (B (nI a) (nI c) (nI fl) st')) (hX : ∀ (i : Nat) (tr : CT) (st' : AI), i < 13 → (∀ j, 61 ≤ j → st' j = st0 j) → P (some (-nI (20 + i), v, nw, tr)) (some (-nI (20 + i), fa_fill bf st' 61, torn, bf))) (F : Nat) (hF : 13 < F) (tr : CT) (h1 : WFk K) (h2 : RCc K tr) (h3 : RCm K st0 0 h) : P (fX5_read_L60b2 v nw s (nI q) p3 (nI m) A F 0 0 0 tr) (fX6_read_L62 lanes sizes cells torn (nI k) (nI q) p3 (nI m) bf B F 0 0 0 st0) := by
  refine lock (fun n (t : Int32 × Int32 × Int32 × CT) => fX5_read_L60b2 v nw s (nI q) p3 (nI m) A n t.1 t.2.1 t.2.2.1 t.2.2.2) (fun n (t : Int32 × Int32 × Int32 × AI) => fX6_read_L62 lanes sizes cells torn (nI k) (nI q) p3 (nI m) bf B n t.1 t.2.1 t.2.2.1 t.2.2.2) (fun i x y => ∃ (fl c : Nat) (K' : KT), fl ≤ 3 ∧ c ≤ i ∧ WFk K' ∧ RCc K' x.2.2.2 ∧ RCm K' y.2.2.2 0 h ∧ (∀ j, 61 ≤ j → y.2.2.2 j = st0 j) ∧ x.1 = nI i ∧ x.2.1 = nI fl ∧ x.2.2.1 = nI c ∧ y.1 = nI i ∧ y.2.1 = nI c ∧ y.2.2.1 = nI fl) P m ?_ ?_ m 0 F F (0, 0, 0, tr) (0, 0, 0, st0) (by omega) (by omega) (by omega) ⟨0, 0, K, by omega, by omega, h1, h2, h3, fun _ _ => rfl, rfl, rfl, rfl, rfl, rfl, rfl⟩
  · rintro i ⟨a1, a2, a3, tr⟩ ⟨b1, b2, b3, st⟩ n n' hi ⟨fl, c, K', e1, e2, e3, e4, e5, e6, e7, e8, e9, e10, e11, e12⟩ ih
    simp only at e4 e5 e6 e7 e8 e9 e10 e11 e12 ⊢
    subst e7 e8 e9 e10 e11 e12
    obtain ⟨G, hG⟩ : ∃ G, G = 4096 := ⟨_, rfl⟩
    rw [fX5_read_L60b2, fX6_read_L62, ← hG]
    by_cases cf : fl = 0
    · subst cf
      rcases three hk hq (show i ≤ 12 by omega) r p3 G (by omega) with ⟨b, g1, g2, g3, a, g4⟩ | ⟨j, g1, g2, g3, g4⟩
      · simp (disch := omega) only [nm_q, bd1_some, bd2_some, bd3_some, bd4_some, bd5_some, bd6_some, bd7_some, bd8_some, bd9_some, bd10_some, bd11_some, bd1_ite, ↓reduceIte, gd_nI, gb_nI, gb_ite, li, liL, nI_add, nI_1, pk_sub, pk_mul, pk_div, nI_clamp, nI_eq, nI_leI, nI_ltI, nI_eqn, nI_neq, nI_nn, nI_len, nI_ltn, ngI_le, ngI_lt, nng, sm10, sm8, shr_n, shl_n, and_1, fa_or, leT, leF, ltT, ltF, eqT, eqF, g3, g4]
        exact ih (nI (i + 1), nI b, nI c, tr) (nI (i + 1), nI c, nI b, st) ⟨b, c, K', by omega, by omega, e3, e4, e5, e6, rfl, rfl, rfl, rfl, rfl, rfl⟩
      · have hidx : nI (40 * k) + p3 + nI (3 * i) = nI (40 * k + j) := by rw [Int32.add_assoc, g2, nI_add]
        have c0 := r.2 j (by omega)
        have c1 := r.2 (j + 1) (by omega)
        have c2 := r.2 (j + 2) (by omega)
        rw [← Nat.add_assoc] at c1 c2
        rcases say_both e3 e4 e5 (sCe s j) (sCe s (j + 1)) (sCe s (j + 2)) with ⟨b, b1, b2, f1, f2⟩ | ⟨K2, c', st', k1, k2, k3, k4, k5, _, f1, f2⟩
        · simp (disch := omega) only [nm_q, bd1_some, bd2_some, bd3_some, bd4_some, bd5_some, bd6_some, bd7_some, bd8_some, bd9_some, bd10_some, bd11_some, bd1_ite, ↓reduceIte, gd_nI, gb_nI, gb_ite, li, liL, nI_add, nI_1, pk_sub, pk_mul, pk_div, nI_clamp, nI_eq, nI_leI, nI_ltI, nI_eqn, nI_neq, nI_nn, nI_len, nI_ltn, ngI_le, ngI_lt, nng, sm10, sm8, shr_n, shl_n, and_1, fa_or, leT, leF, ltT, ltF, eqT, eqF, g2, g4, hidx, c_cellAt, c0, c1, c2, f1, f2, nng0, m_undo, ng_sub] at g3 ⊢
          simp (disch := omega) only [g3, nm_q, bd1_some, bd2_some, bd3_some, bd4_some, bd5_some, bd6_some, bd7_some, bd8_some, bd9_some, bd10_some, bd11_some, bd1_ite, ↓reduceIte, gd_nI, gb_nI, gb_ite, li, liL, nI_add, nI_1, pk_sub, pk_mul, pk_div, nI_clamp, nI_eq, nI_leI, nI_ltI, nI_eqn, nI_neq, nI_nn, nI_len, nI_ltn, ngI_le, ngI_lt, nng, sm10, sm8, shr_n, shl_n, and_1, fa_or, leT, leF, ltT, ltF, eqT, eqF, c_cellAt, f1, nng0, ng_sub]
          exact hX i tr st (by omega) e6
        · simp (disch := omega) only [nm_q, bd1_some, bd2_some, bd3_some, bd4_some, bd5_some, bd6_some, bd7_some, bd8_some, bd9_some, bd10_some, bd11_some, bd1_ite, ↓reduceIte, gd_nI, gb_nI, gb_ite, li, liL, nI_add, nI_1, pk_sub, pk_mul, pk_div, nI_clamp, nI_eq, nI_leI, nI_ltI, nI_eqn, nI_neq, nI_nn, nI_len, nI_ltn, ngI_le, ngI_lt, nng, sm10, sm8, shr_n, shl_n, and_1, fa_or, leT, leF, ltT, ltF, eqT, eqF, g2, g4, hidx, c_cellAt, c0, c1, c2, f1, f2] at g3 ⊢
          simp (disch := omega) only [g3, nm_q, bd1_some, bd2_some, bd3_some, bd4_some, bd5_some, bd6_some, bd7_some, bd8_some, bd9_some, bd10_some, bd11_some, bd1_ite, ↓reduceIte, gd_nI, gb_nI, gb_ite, li, liL, nI_add, nI_1, pk_sub, pk_mul, pk_div, nI_clamp, nI_eq, nI_leI, nI_ltI, nI_eqn, nI_neq, nI_nn, nI_len, nI_ltn, ngI_le, ngI_lt, nng, sm10, sm8, shr_n, shl_n, and_1, fa_or, leT, leF, ltT, ltF, eqT, eqF, c_cellAt, f1]
          exact ih (nI (i + 1), nI 0, nI (c + 1), c') (nI (i + 1), nI (c + 1), nI 0, st') ⟨0, c + 1, K2, by omega, by omega, k1, k2, k3, fun j hj => by rw [← e6 j hj]; exact k4 j hj, rfl, rfl, rfl, rfl, rfl, rfl⟩
    · simp (disch := omega) only [nm_q, bd1_some, bd2_some, bd3_some, bd4_some, bd5_some, bd6_some, bd7_some, bd8_some, bd9_some, bd10_some, bd11_some, bd1_ite, ↓reduceIte, gd_nI, gb_nI, gb_ite, li, liL, nI_add, nI_1, pk_sub, pk_mul, pk_div, nI_clamp, nI_eq, nI_leI, nI_ltI, nI_eqn, nI_neq, nI_nn, nI_len, nI_ltn, ngI_le, ngI_lt, nng, sm10, sm8, shr_n, shl_n, and_1, fa_or, leT, leF, ltT, ltF, eqT, eqF]
      exact hE i fl c K' tr st e1 (by omega) e3 e4 e5 e6
  · rintro ⟨a1, a2, a3, tr⟩ ⟨b1, b2, b3, st⟩ n n' ⟨fl, c, K', e1, e2, e3, e4, e5, e6, e7, e8, e9, e10, e11, e12⟩
    simp only at e4 e5 e6 e7 e8 e9 e10 e11 e12 ⊢
    subst e7 e8 e9 e10 e11 e12
    rw [fX5_read_L60b2, fX6_read_L62]
    simp (disch := omega) only [nm_q, bd1_some, bd2_some, bd3_some, bd4_some, bd5_some, bd6_some, bd7_some, bd8_some, bd9_some, bd10_some, bd11_some, bd1_ite, ↓reduceIte, gd_nI, gb_nI, gb_ite, li, liL, nI_add, nI_1, pk_sub, pk_mul, pk_div, nI_clamp, nI_eq, nI_leI, nI_ltI, nI_eqn, nI_neq, nI_nn, nI_len, nI_ltn, ngI_le, ngI_lt, nng, sm10, sm8, shr_n, shl_n, and_1, fa_or, leT, leF, ltT, ltF, eqT, eqF]
    exact hE m fl c K' tr st e1 (by omega) e3 e4 e5 e6
theorem read_lk3 {K : KT} {h : Int32} {k q m : Nat} {s : ST} {lanes sizes cells : AI} (v : VT) (nw : CT) (hk : k < 4) (hq : q < 3) (hm : m ≤ 13) (r : RS k s lanes sizes cells) (p3 : Int32) (bf st0 : AI) (torn : Int32) (A : Int32 → Int32 → Int32 → CT → Option (Int32 × VT × CT × CT)) (B : Int32 → Int32 → Int32 → AI → Option (Int32 × AI × Int32 × AI)) (P : Option (Int32 × VT × CT × CT) → Option (Int32 × AI × Int32 × AI) → Prop) (hE : ∀ (a fl c : Nat) (K' : KT) (tr : CT) (st' : AI), fl ≤ 3 → c ≤ 13 → WFk K' → RCc K' tr → RCm K' st' 0 h → (∀ j, 61 ≤ j → st' j = st0 j) → P (A (nI a) (nI fl) (nI c) tr) (B (nI a) (nI c) (nI fl) st')) (hX : ∀ (i : Nat) (tr : CT) (st' : AI), i < 13 → (∀ j, 61 ≤ j → st' j = st0 j) → P (some (-nI (20 + i), v, nw, tr)) (some (-nI (20 + i), fa_fill bf st' 61, torn, bf))) (F : Nat) (hF : 13 < F) (tr : CT) (h1 : WFk K) (h2 : RCc K tr) (h3 : RCm K st0 0 h) : P (fX5_read_L60b3 v nw s (nI q) p3 (nI m) A F 0 0 0 tr) (fX6_read_L62 lanes sizes cells torn (nI k) (nI q) p3 (nI m) bf B F 0 0 0 st0) := by
  refine lock (fun n (t : Int32 × Int32 × Int32 × CT) => fX5_read_L60b3 v nw s (nI q) p3 (nI m) A n t.1 t.2.1 t.2.2.1 t.2.2.2) (fun n (t : Int32 × Int32 × Int32 × AI) => fX6_read_L62 lanes sizes cells torn (nI k) (nI q) p3 (nI m) bf B n t.1 t.2.1 t.2.2.1 t.2.2.2) (fun i x y => ∃ (fl c : Nat) (K' : KT), fl ≤ 3 ∧ c ≤ i ∧ WFk K' ∧ RCc K' x.2.2.2 ∧ RCm K' y.2.2.2 0 h ∧ (∀ j, 61 ≤ j → y.2.2.2 j = st0 j) ∧ x.1 = nI i ∧ x.2.1 = nI fl ∧ x.2.2.1 = nI c ∧ y.1 = nI i ∧ y.2.1 = nI c ∧ y.2.2.1 = nI fl) P m ?_ ?_ m 0 F F (0, 0, 0, tr) (0, 0, 0, st0) (by omega) (by omega) (by omega) ⟨0, 0, K, by omega, by omega, h1, h2, h3, fun _ _ => rfl, rfl, rfl, rfl, rfl, rfl, rfl⟩
  · rintro i ⟨a1, a2, a3, tr⟩ ⟨b1, b2, b3, st⟩ n n' hi ⟨fl, c, K', e1, e2, e3, e4, e5, e6, e7, e8, e9, e10, e11, e12⟩ ih
    simp only at e4 e5 e6 e7 e8 e9 e10 e11 e12 ⊢
    subst e7 e8 e9 e10 e11 e12
    obtain ⟨G, hG⟩ : ∃ G, G = 4096 := ⟨_, rfl⟩
    rw [fX5_read_L60b3, fX6_read_L62, ← hG]
    by_cases cf : fl = 0
    · subst cf
      rcases three hk hq (show i ≤ 12 by omega) r p3 G (by omega) with ⟨b, g1, g2, g3, a, g4⟩ | ⟨j, g1, g2, g3, g4⟩
      · simp (disch := omega) only [nm_q, bd1_some, bd2_some, bd3_some, bd4_some, bd5_some, bd6_some, bd7_some, bd8_some, bd9_some, bd10_some, bd11_some, bd1_ite, ↓reduceIte, gd_nI, gb_nI, gb_ite, li, liL, nI_add, nI_1, pk_sub, pk_mul, pk_div, nI_clamp, nI_eq, nI_leI, nI_ltI, nI_eqn, nI_neq, nI_nn, nI_len, nI_ltn, ngI_le, ngI_lt, nng, sm10, sm8, shr_n, shl_n, and_1, fa_or, leT, leF, ltT, ltF, eqT, eqF, g3, g4]
        exact ih (nI (i + 1), nI b, nI c, tr) (nI (i + 1), nI c, nI b, st) ⟨b, c, K', by omega, by omega, e3, e4, e5, e6, rfl, rfl, rfl, rfl, rfl, rfl⟩
      · have hidx : nI (40 * k) + p3 + nI (3 * i) = nI (40 * k + j) := by rw [Int32.add_assoc, g2, nI_add]
        have c0 := r.2 j (by omega)
        have c1 := r.2 (j + 1) (by omega)
        have c2 := r.2 (j + 2) (by omega)
        rw [← Nat.add_assoc] at c1 c2
        rcases say_both e3 e4 e5 (sCe s j) (sCe s (j + 1)) (sCe s (j + 2)) with ⟨b, b1, b2, f1, f2⟩ | ⟨K2, c', st', k1, k2, k3, k4, k5, _, f1, f2⟩
        · simp (disch := omega) only [nm_q, bd1_some, bd2_some, bd3_some, bd4_some, bd5_some, bd6_some, bd7_some, bd8_some, bd9_some, bd10_some, bd11_some, bd1_ite, ↓reduceIte, gd_nI, gb_nI, gb_ite, li, liL, nI_add, nI_1, pk_sub, pk_mul, pk_div, nI_clamp, nI_eq, nI_leI, nI_ltI, nI_eqn, nI_neq, nI_nn, nI_len, nI_ltn, ngI_le, ngI_lt, nng, sm10, sm8, shr_n, shl_n, and_1, fa_or, leT, leF, ltT, ltF, eqT, eqF, g2, g4, hidx, c_cellAt, c0, c1, c2, f1, f2, nng0, m_undo, ng_sub] at g3 ⊢
          simp (disch := omega) only [g3, nm_q, bd1_some, bd2_some, bd3_some, bd4_some, bd5_some, bd6_some, bd7_some, bd8_some, bd9_some, bd10_some, bd11_some, bd1_ite, ↓reduceIte, gd_nI, gb_nI, gb_ite, li, liL, nI_add, nI_1, pk_sub, pk_mul, pk_div, nI_clamp, nI_eq, nI_leI, nI_ltI, nI_eqn, nI_neq, nI_nn, nI_len, nI_ltn, ngI_le, ngI_lt, nng, sm10, sm8, shr_n, shl_n, and_1, fa_or, leT, leF, ltT, ltF, eqT, eqF, c_cellAt, f1, nng0, ng_sub]
          exact hX i tr st (by omega) e6
        · simp (disch := omega) only [nm_q, bd1_some, bd2_some, bd3_some, bd4_some, bd5_some, bd6_some, bd7_some, bd8_some, bd9_some, bd10_some, bd11_some, bd1_ite, ↓reduceIte, gd_nI, gb_nI, gb_ite, li, liL, nI_add, nI_1, pk_sub, pk_mul, pk_div, nI_clamp, nI_eq, nI_leI, nI_ltI, nI_eqn, nI_neq, nI_nn, nI_len, nI_ltn, ngI_le, ngI_lt, nng, sm10, sm8, shr_n, shl_n, and_1, fa_or, leT, leF, ltT, ltF, eqT, eqF, g2, g4, hidx, c_cellAt, c0, c1, c2, f1, f2] at g3 ⊢
          simp (disch := omega) only [g3, nm_q, bd1_some, bd2_some, bd3_some, bd4_some, bd5_some, bd6_some, bd7_some, bd8_some, bd9_some, bd10_some, bd11_some, bd1_ite, ↓reduceIte, gd_nI, gb_nI, gb_ite, li, liL, nI_add, nI_1, pk_sub, pk_mul, pk_div, nI_clamp, nI_eq, nI_leI, nI_ltI, nI_eqn, nI_neq, nI_nn, nI_len, nI_ltn, ngI_le, ngI_lt, nng, sm10, sm8, shr_n, shl_n, and_1, fa_or, leT, leF, ltT, ltF, eqT, eqF, c_cellAt, f1]
          exact ih (nI (i + 1), nI 0, nI (c + 1), c') (nI (i + 1), nI (c + 1), nI 0, st') ⟨0, c + 1, K2, by omega, by omega, k1, k2, k3, fun j hj => by rw [← e6 j hj]; exact k4 j hj, rfl, rfl, rfl, rfl, rfl, rfl⟩
    · simp (disch := omega) only [nm_q, bd1_some, bd2_some, bd3_some, bd4_some, bd5_some, bd6_some, bd7_some, bd8_some, bd9_some, bd10_some, bd11_some, bd1_ite, ↓reduceIte, gd_nI, gb_nI, gb_ite, li, liL, nI_add, nI_1, pk_sub, pk_mul, pk_div, nI_clamp, nI_eq, nI_leI, nI_ltI, nI_eqn, nI_neq, nI_nn, nI_len, nI_ltn, ngI_le, ngI_lt, nng, sm10, sm8, shr_n, shl_n, and_1, fa_or, leT, leF, ltT, ltF, eqT, eqF]
      exact hE i fl c K' tr st e1 (by omega) e3 e4 e5 e6
  · rintro ⟨a1, a2, a3, tr⟩ ⟨b1, b2, b3, st⟩ n n' ⟨fl, c, K', e1, e2, e3, e4, e5, e6, e7, e8, e9, e10, e11, e12⟩
    simp only at e4 e5 e6 e7 e8 e9 e10 e11 e12 ⊢
    subst e7 e8 e9 e10 e11 e12
    rw [fX5_read_L60b3, fX6_read_L62]
    simp (disch := omega) only [nm_q, bd1_some, bd2_some, bd3_some, bd4_some, bd5_some, bd6_some, bd7_some, bd8_some, bd9_some, bd10_some, bd11_some, bd1_ite, ↓reduceIte, gd_nI, gb_nI, gb_ite, li, liL, nI_add, nI_1, pk_sub, pk_mul, pk_div, nI_clamp, nI_eq, nI_leI, nI_ltI, nI_eqn, nI_neq, nI_nn, nI_len, nI_ltn, ngI_le, ngI_lt, nng, sm10, sm8, shr_n, shl_n, and_1, fa_or, leT, leF, ltT, ltF, eqT, eqF]
    exact hE m fl c K' tr st e1 (by omega) e3 e4 e5 e6
theorem ev_read (v : VT) (rd : RT) (dr : CT) (nw : CT) (tr : CT) (da : DT) (i0 : CT) (i1 : CT) (s0 : ST) (s1 : ST) (s2 : ST) (s3 : ST) (st : AI) (now : AI) (isKept : AI) (hearers : Int32) (draft : AI) (dHearers : Int32) (dWalls : Int32) (toldWinds : Int32) (tape : AI) (taped : Int32) (pos : Int32) (frm : Int32) (sort : Int32) (value : Int32) (fault : Int32) (wrongAt : Int32) (landed : AI) (landedIn : AI) (stepped : AI) (isThere : AI) (isAt : AI) (isNext : AI) (landSum : Int64) (heardSum : Int64) (allWays : Int64) (ways : AI) (drawn : AI) (lanes : AI) (sizes : AI) (cells : AI) (torn : Int32) (before : AI) (hR : Rel v rd nw i0 i1 s0 s1 s2 s3 st isKept hearers tape taped fault lanes sizes cells torn) (p1 : Int32) (p2 : Int32) (p3 : Int32) (p4 : Int32) : ∃ (res : Int32) (v_x : VT) (nw_x : CT) (tr_x : CT) (st_x : AI) (torn_x : Int32) (before_x : AI), fX5_read p1 p2 p3 p4 v nw tr s0 s1 s2 s3 = some (res, v_x, nw_x, tr_x) ∧ fX6_read p1 p2 p3 p4 st lanes sizes cells torn before = some (res, st_x, torn_x, before_x) ∧ (Rel v_x rd nw_x i0 i1 s0 s1 s2 s3 st_x isKept hearers tape taped fault lanes sizes cells torn_x) := by
  have hR0 := hR
  obtain ⟨⟨K, hK, hc, hm⟩, r0, r1, rt, rf, q0, q1, q2, q3, rl⟩ := hR
  rcases sheetOf p1 p2 with ⟨k, q, hk, hq, rfl, rfl, f2⟩ | ⟨h1, f2⟩ | ⟨k, hk, rfl, h1, f2⟩
  · rcases in_rg p4 0 13 (by omega) (by omega) with ⟨m, _, hm13, rfl, h3⟩ | ⟨h1, h2⟩
    · have fin : ∀ x y, (∃ res v' nw' tr' st' torn' bf', x = some (res, v', nw', tr') ∧ y = some (res, st', torn', bf') ∧ Rel v' rd nw' i0 i1 s0 s1 s2 s3 st' isKept hearers tape taped fault lanes sizes cells torn') → fX5_read (nI k) (nI q) p3 (nI m) v nw tr s0 s1 s2 s3 = x → fX6_read (nI k) (nI q) p3 (nI m) st lanes sizes cells torn before = y → ∃ (res : Int32) (v_x : VT) (nw_x : CT) (tr_x : CT) (st_x : AI) (torn_x : Int32) (before_x : AI), fX5_read (nI k) (nI q) p3 (nI m) v nw tr s0 s1 s2 s3 = some (res, v_x, nw_x, tr_x) ∧ fX6_read (nI k) (nI q) p3 (nI m) st lanes sizes cells torn before = some (res, st_x, torn_x, before_x) ∧ (Rel v_x rd nw_x i0 i1 s0 s1 s2 s3 st_x isKept hearers tape taped fault lanes sizes cells torn_x) := by
        rintro x y ⟨res, v', nw', tr', st', torn', bf', rfl, rfl, hh⟩ e1 e2
        exact ⟨res, v', nw', tr', st', torn', bf', e1, e2, hh⟩
      obtain ⟨F, hF⟩ : ∃ F, F = 4096 := ⟨_, rfl⟩
      have eM : fX6_read (nI k) (nI q) p3 (nI m) st lanes sizes cells torn before = fX6_read_L62 lanes sizes cells torn (nI k) (nI q) p3 (nI m) (fa_fill st before 61) (fun v17 v18 v19 st_20 => some (v18, st_20, v19, fa_fill st before 61)) F 0 0 0 st := by
        have h3 : fX6_in (nI m).toInt64 0 13 = some (nI 1) := h3
        rw [fX6_read, f2, bd1_some, if_neg (show ¬ nI 1 = 0 from n10), nm_q, h3, bd1_some, if_neg (show ¬ nI 1 = 0 from n10), ← hF, m_before st before _ F (by omega)]
      have hX : ∀ (i : Nat) (tr : CT) (st' : AI), i < 13 → (∀ j, 61 ≤ j → st' j = st j) → (fun x y => ∃ res v' nw' tr' st' torn' bf', x = some (res, v', nw', tr') ∧ y = some (res, st', torn', bf') ∧ Rel v' rd nw' i0 i1 s0 s1 s2 s3 st' isKept hearers tape taped fault lanes sizes cells torn') (some (-nI (20 + i), v, nw, tr)) (some (-nI (20 + i), fa_fill (fa_fill st before 61) st' 61, torn, fa_fill st before 61)) := by
        intro i tr st' hi hs
        have hj : ∀ j, 61 ≤ j → fa_fill (fa_fill st before 61) st' 61 j = st j := fun j hj => by rw [fa_fill_out hj]; exact hs j hj
        exact ⟨_, _, _, _, _, _, _, rfl, rfl, ⟨K, hK, hc, RCm_cong hK (fun j hj => by rw [fa_fill_in (by omega), fa_fill_in (by omega)]) hm⟩, RI_cong rfl hj r0, RI_cong rfl hj r1, rt, rf, q0, q1, q2, q3, rl⟩
      have hE : ∀ (a fl c : Nat) (K' : KT) (tr : CT) (st' : AI), fl ≤ 3 → c ≤ 13 → WFk K' → RCc K' tr → RCm K' st' 0 hearers → (∀ j, 61 ≤ j → st' j = st j) → (fun x y => ∃ res v' nw' tr' st' torn' bf', x = some (res, v', nw', tr') ∧ y = some (res, st', torn', bf') ∧ Rel v' rd nw' i0 i1 s0 s1 s2 s3 st' isKept hearers tape taped fault lanes sizes cells torn') (some (nI c, vLt' v (nI fl), tr, tr)) (some (nI c, st', nI fl, fa_fill st before 61)) := by
        intro a fl c K' tr st' _ _ k1 k2 k3 k4
        exact ⟨_, _, _, _, _, _, _, rfl, rfl, ⟨K', k1, k2, k3⟩, RI_cong rfl k4 r0, RI_cong rfl k4 r1, rt, rf, q0, q1, q2, q3, rfl⟩
      have hk4 : k = 0 ∨ k = 1 ∨ k = 2 ∨ k = 3 := by omega
      rcases hk4 with rfl | rfl | rfl | rfl
      · have eC : fX5_read (nI 0) (nI q) p3 (nI m) v nw tr s0 s1 s2 s3 = fX5_read_L60 v nw s0 (nI q) p3 (nI m) (fun v10 v11 v12 tr_13 => some (v12, vLt' v v11, tr_13, tr_13)) F 0 0 0 nw := by
          rw [fX5_read, if_neg (by decide), if_neg (by decide), if_neg (nI_pos (show q < 2 ^ 31 by omega)), if_neg (show ¬ (3 : Int32) ≤ nI q from nI_ge (b := 3) (show q < 3 by omega) (by omega)), if_neg (nI_pos (show m < 2 ^ 31 by omega)), if_pos (show nI m ≤ 13 from nI_le (b := 13) hm13 (by omega)), gd, if_neg (by decide), sel4_0, ← hF]
          rfl
        exact fin _ _ (read_lk0 v nw hk hq hm13 q0 p3 _ st torn _ _ (fun x y => ∃ res v' nw' tr' st' torn' bf', x = some (res, v', nw', tr') ∧ y = some (res, st', torn', bf') ∧ Rel v' rd nw' i0 i1 s0 s1 s2 s3 st' isKept hearers tape taped fault lanes sizes cells torn') hE hX F (by omega) nw hK hc hm) eC eM
      · have eC : fX5_read (nI 1) (nI q) p3 (nI m) v nw tr s0 s1 s2 s3 = fX5_read_L60b1 v nw s1 (nI q) p3 (nI m) (fun v10 v11 v12 tr_13 => some (v12, vLt' v v11, tr_13, tr_13)) F 0 0 0 nw := by
          rw [fX5_read, if_neg (by decide), if_neg (by decide), if_neg (nI_pos (show q < 2 ^ 31 by omega)), if_neg (show ¬ (3 : Int32) ≤ nI q from nI_ge (b := 3) (show q < 3 by omega) (by omega)), if_neg (nI_pos (show m < 2 ^ 31 by omega)), if_pos (show nI m ≤ 13 from nI_le (b := 13) hm13 (by omega)), gd, if_neg (by decide), sel4_1, ← hF]
          rfl
        exact fin _ _ (read_lk1 v nw hk hq hm13 q1 p3 _ st torn _ _ (fun x y => ∃ res v' nw' tr' st' torn' bf', x = some (res, v', nw', tr') ∧ y = some (res, st', torn', bf') ∧ Rel v' rd nw' i0 i1 s0 s1 s2 s3 st' isKept hearers tape taped fault lanes sizes cells torn') hE hX F (by omega) nw hK hc hm) eC eM
      · have eC : fX5_read (nI 2) (nI q) p3 (nI m) v nw tr s0 s1 s2 s3 = fX5_read_L60b2 v nw s2 (nI q) p3 (nI m) (fun v10 v11 v12 tr_13 => some (v12, vLt' v v11, tr_13, tr_13)) F 0 0 0 nw := by
          rw [fX5_read, if_neg (by decide), if_neg (by decide), if_neg (nI_pos (show q < 2 ^ 31 by omega)), if_neg (show ¬ (3 : Int32) ≤ nI q from nI_ge (b := 3) (show q < 3 by omega) (by omega)), if_neg (nI_pos (show m < 2 ^ 31 by omega)), if_pos (show nI m ≤ 13 from nI_le (b := 13) hm13 (by omega)), gd, if_neg (by decide), sel4_2, ← hF]
          rfl
        exact fin _ _ (read_lk2 v nw hk hq hm13 q2 p3 _ st torn _ _ (fun x y => ∃ res v' nw' tr' st' torn' bf', x = some (res, v', nw', tr') ∧ y = some (res, st', torn', bf') ∧ Rel v' rd nw' i0 i1 s0 s1 s2 s3 st' isKept hearers tape taped fault lanes sizes cells torn') hE hX F (by omega) nw hK hc hm) eC eM
      · have eC : fX5_read (nI 3) (nI q) p3 (nI m) v nw tr s0 s1 s2 s3 = fX5_read_L60b3 v nw s3 (nI q) p3 (nI m) (fun v10 v11 v12 tr_13 => some (v12, vLt' v v11, tr_13, tr_13)) F 0 0 0 nw := by
          rw [fX5_read, if_neg (by decide), if_neg (by decide), if_neg (nI_pos (show q < 2 ^ 31 by omega)), if_neg (show ¬ (3 : Int32) ≤ nI q from nI_ge (b := 3) (show q < 3 by omega) (by omega)), if_neg (nI_pos (show m < 2 ^ 31 by omega)), if_pos (show nI m ≤ 13 from nI_le (b := 13) hm13 (by omega)), gd, if_neg (by decide), sel4_3, ← hF]
          rfl
        exact fin _ _ (read_lk3 v nw hk hq hm13 q3 p3 _ st torn _ _ (fun x y => ∃ res v' nw' tr' st' torn' bf', x = some (res, v', nw', tr') ∧ y = some (res, st', torn', bf') ∧ Rel v' rd nw' i0 i1 s0 s1 s2 s3 st' isKept hearers tape taped fault lanes sizes cells torn') hE hX F (by omega) nw hK hc hm) eC eM
    · refine ⟨-nI 1, v, nw, tr, st, torn, before, ?_, ?_, hR0⟩
      · rw [fX5_read, if_neg (nI_pos (show k < 2 ^ 31 by omega)), if_neg (show ¬ (4 : Int32) ≤ nI k from nI_ge (b := 4) (show k < 4 by omega) (by omega)), if_neg (nI_pos (show q < 2 ^ 31 by omega)), if_neg (show ¬ (3 : Int32) ≤ nI q from nI_ge (b := 3) (show q < 3 by omega) (by omega))]
        exact rgA _ _ h1
      · have h2 : fX6_in p4.toInt64 0 13 = some (nI 0) := h2
        rw [fX6_read, f2, bd1_some, if_neg (show ¬ nI 1 = 0 from n10), nm_q, h2, bd1_some, if_pos (show nI 0 = 0 from rfl)]
        rfl
  · refine ⟨-nI 1, v, nw, tr, st, torn, before, ?_, ?_, hR0⟩
    · exact rgB (b := 3) _ _ (by omega) h1
    · rw [fX6_read, f2, bd1_some, if_pos (show nI 0 = 0 from rfl)]
      rfl
  · refine ⟨-nI 1, v, nw, tr, st, torn, before, ?_, ?_, hR0⟩
    · rw [fX5_read, if_neg (nI_pos (show k < 2 ^ 31 by omega)), if_neg (show ¬ (4 : Int32) ≤ nI k from nI_ge (b := 4) (show k < 4 by omega) (by omega))]
      exact rgB (b := 2) _ _ (by omega) h1
    · rw [fX6_read, f2, bd1_some, if_pos (show nI 0 = 0 from rfl)]
      rfl
