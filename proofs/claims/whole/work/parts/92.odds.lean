-- winds by odds: sums over all courses
theorem up_up {α : Type} (f : Nat → α) (k : Nat) (x y : α) : va_up (va_up f k x) k y = va_up f k y := funext fun j => by
  by_cases c : j = k
  · rw [c, up_s, up_s]
  · rw [up_n _ _ c, up_n _ _ c, up_n _ _ c]
theorem up_cm {α : Type} (f : Nat → α) {k l : Nat} (x y : α) (h : k ≠ l) : va_up (va_up f k x) l y = va_up (va_up f l y) k x := funext fun j => by
  by_cases c : j = k
  · rw [c, up_n _ _ h, up_s, up_s]
  · by_cases d : j = l
    · rw [d, up_s, up_n _ _ (fun e => h e.symm), up_s]
    · rw [up_n _ _ d, up_n _ _ c, up_n _ _ c, up_n _ _ d]
/-- the sum over all ways to set the bits below k, a bit that is set weighing a, another b -/
def SB (a b : Nat) : Nat → ((Nat → Bool) → Nat) → (Nat → Bool) → Nat
  | 0, g, β => g β
  | k + 1, g, β => a * SB a b k g (va_up β k true) + b * SB a b k g (va_up β k false)
theorem SB_const (a b : Nat) (x : Nat) : ∀ k β, SB a b k (fun _ => x) β = (a + b) ^ k * x
  | 0, β => by rw [SB, Nat.pow_zero, Nat.one_mul]
  | k + 1, β => by rw [SB, SB_const a b x k, SB_const a b x k, ← Nat.add_mul, Nat.pow_succ, ← Nat.mul_assoc, Nat.mul_comm (a + b)]
theorem SB_push (a b : Nat) (g : (Nat → Bool) → Nat) (h : Nat) (x : Bool) : ∀ k β, k ≤ h → SB a b k (fun β => g (va_up β h x)) β = SB a b k g (va_up β h x)
  | 0, β, _ => rfl
  | k + 1, β, hk => by rw [SB, SB, SB_push a b g h x k _ (by omega), SB_push a b g h x k _ (by omega), up_cm _ _ _ (show k ≠ h by omega), up_cm _ _ _ (show k ≠ h by omega)]
theorem rg1 (a b x y : Nat) : (a + b) * (a * x + b * y) = a * (a * x + b * x) + b * (a * y + b * y) := by
  simp only [Nat.mul_add, Nat.add_mul]
  have e1 : b * (a * x) = a * (b * x) := Nat.mul_left_comm b a x
  have e2 : a * (b * y) = b * (a * y) := Nat.mul_left_comm a b y
  omega
theorem rg2 (a b x y x1 y1 x2 y2 : Nat) (h1 : (a + b) * x = a * x1 + b * x2) (h2 : (a + b) * y = a * y1 + b * y2) : (a + b) * (a * x + b * y) = a * (a * x1 + b * y1) + b * (a * x2 + b * y2) := by
  have e : (a + b) * (a * x + b * y) = a * ((a + b) * x) + b * ((a + b) * y) := by
    rw [Nat.mul_add, Nat.mul_left_comm, Nat.mul_left_comm (a + b) b y]
  rw [e, h1, h2]
  simp only [Nat.mul_add]
  have e1 : a * (b * x2) = b * (a * x2) := Nat.mul_left_comm a b x2
  have e2 : b * (a * y1) = a * (b * y1) := Nat.mul_left_comm b a y1
  omega
theorem SB_cond (a b : Nat) (g : (Nat → Bool) → Nat) (h : Nat) : ∀ k β, h < k → (a + b) * SB a b k g β = a * SB a b k (fun β => g (va_up β h true)) β + b * SB a b k (fun β => g (va_up β h false)) β
  | 0, β, hk => absurd hk (Nat.not_lt_zero _)
  | k + 1, β, hk => by
    rw [SB, SB, SB]
    by_cases c : h = k
    · subst c
      rw [SB_push a b g h true h _ (Nat.le_refl _), SB_push a b g h true h _ (Nat.le_refl _), SB_push a b g h false h _ (Nat.le_refl _), SB_push a b g h false h _ (Nat.le_refl _), up_up, up_up, up_up, up_up]
      exact rg1 _ _ _ _
    · have h1 := SB_cond a b g h k (va_up β k true) (by omega)
      have h2 := SB_cond a b g h k (va_up β k false) (by omega)
      exact rg2 _ _ _ _ _ _ _ _ h1 h2
def wt (a b : Nat) : Nat → Nat → Nat
  | 0, _ => 1
  | k + 1, m => wt a b k m * (if m.testBit k then a else b)
theorem wt_cong (a b : Nat) {m m' : Nat} : ∀ {k : Nat}, (∀ h, h < k → m.testBit h = m'.testBit h) → wt a b k m = wt a b k m'
  | 0, _ => rfl
  | k + 1, e => by rw [wt, wt, wt_cong a b (fun h hh => e h (by omega)), e k (by omega)]
theorem sm_mul (c : Nat) (f : Nat → Nat) : ∀ n, fb_sm (fun k => c * f k) n = c * fb_sm f n
  | 0 => rfl
  | n + 1 => by rw [fb_sm, fb_sm, sm_mul c f n, Nat.mul_add]
theorem SB_sum (a b : Nat) (g : (Nat → Bool) → Nat) : ∀ k β, fb_sm (fun m => wt a b k m * g (fun h => if h < k then m.testBit h else β h)) (2 ^ k) = SB a b k g β
  | 0, β => by
    show 0 + 1 * g (fun h => if h < 0 then Nat.testBit 0 h else β h) = g β
    rw [Nat.zero_add, Nat.one_mul]
    congr 1
  | k + 1, β => by
    rw [SB, Nat.pow_succ, Nat.mul_two, fb_sm_split, ← SB_sum a b g k, ← SB_sum a b g k, ← sm_mul, ← sm_mul, Nat.add_comm]
    congr 1
    · refine fb_sm_cong fun m hm => ?_
      have lo : ∀ h, h < k → (2 ^ k + m).testBit h = m.testBit h := fun h hh => Nat.testBit_two_pow_add_gt hh m
      have hi : (2 ^ k + m).testBit k = true := by rw [Nat.testBit_two_pow_add_eq, Nat.testBit_lt_two_pow hm]; rfl
      rw [wt, wt_cong a b lo, if_pos hi, Nat.mul_comm _ a, Nat.mul_assoc]
      congr 2
      congr 1
      funext h
      by_cases c : h < k
      · rw [if_pos (by omega), if_pos c, lo h c]
      · by_cases d : h = k
        · rw [d, if_pos (by omega), if_neg (by omega), up_s, hi]
        · rw [if_neg (by omega), if_neg c, up_n _ _ d]
    · refine fb_sm_cong fun m hm => ?_
      have hi : m.testBit k = false := Nat.testBit_lt_two_pow hm
      rw [wt, if_neg (by rw [hi]; decide), Nat.mul_comm _ b, Nat.mul_assoc]
      congr 2
      congr 1
      funext h
      by_cases c : h < k
      · rw [if_pos (by omega), if_pos c]
      · by_cases d : h = k
        · rw [d, if_pos (by omega), if_neg (by omega), up_s, hi]
        · rw [if_neg (by omega), if_neg c, up_n _ _ d]
/-- one flight, borne by a wind w -/
def stpW (T : Nat → Nat → Nat) (D : DK) (s w : Nat) : DK := (flyW (T s) D.1 w, va_up D.2.1 s (flyL (T s) D.1 w), va_up D.2.2.1 s (flyH (T s) D.1), va_up D.2.2.2 s (flyF (T s) D.1).2)
/-- the wind of an hour, as far as it is settled -/
def wSo (K : KT) (σ : Nat → Option Bool) (h : Nat) : Nat := if σ h = some true then 4 else kWi K h
def wB (K : KT) (β : Nat → Bool) (h : Nat) : Nat := if β h then 4 else kWi K h
/-- ten to the number of sayings times what is expected of f -/
def GG (K : KT) (v : Nat) (f : DK → Nat) : List Nat → (Nat → Option Bool) → DK → Nat
  | [], _, D => f D
  | s :: l, σ, D => if kWi K (flyH (kT K s) D.1) = 4 ∨ (σ (flyH (kT K s) D.1)).isSome then 10 * GG K v f l σ (stpW (kT K) D s (wSo K σ (flyH (kT K s) D.1))) else v * GG K v f l (va_up σ (flyH (kT K s) D.1) (some true)) (stpW (kT K) D s 4) + (10 - v) * GG K v f l (va_up σ (flyH (kT K s) D.1) (some false)) (stpW (kT K) D s (kWi K (flyH (kT K s) D.1)))
def ov (σ : Nat → Option Bool) (β : Nat → Bool) (h : Nat) : Bool := match σ h with
  | some x => x
  | none => β h
theorem ov_up {σ : Nat → Option Bool} {h : Nat} (e : σ h = none) (β : Nat → Bool) (x : Bool) : ov σ (va_up β h x) = ov (va_up σ h (some x)) β := funext fun j => by
  unfold ov
  by_cases c : j = h
  · rw [c, e, up_s, up_s]
  · rw [up_n _ _ c, up_n _ _ c]
theorem GG_ref (K : KT) (v : Nat) (hv : v ≤ 10) (f : DK → Nat) (β : Nat → Bool) : ∀ l σ D, 10 ^ l.length * SB v (10 - v) 10 (fun β => f (l.foldl (stp (kT K) (wB K (ov σ β))) D)) β = 10 ^ 10 * GG K v f l σ D
  | [], σ, D => by
    show 10 ^ 0 * SB v (10 - v) 10 (fun β => f D) β = _
    rw [SB_const, GG, show v + (10 - v) = 10 by omega, Nat.pow_zero, Nat.one_mul]
  | s :: l, σ, D => by
    have hh := flyH_b (kT K s) D.1
    rw [GG]
    simp only [List.foldl_cons, List.length_cons]
    by_cases c : kWi K (flyH (kT K s) D.1) = 4 ∨ (σ (flyH (kT K s) D.1)).isSome
    · rw [if_pos c]
      have e : ∀ β, stp (kT K) (wB K (ov σ β)) D s = stpW (kT K) D s (wSo K σ (flyH (kT K s) D.1)) := fun β => by
        have ew : wB K (ov σ β) (flyH (kT K s) D.1) = wSo K σ (flyH (kT K s) D.1) := by
          unfold wB wSo ov
          rcases c with c | c
          · rw [c, ite_self, ite_self]
          · cases es : σ (flyH (kT K s) D.1) with
            | none => rw [es] at c; cases c
            | some x => cases x <;> simp
        show stpW (kT K) D s (wB K (ov σ β) (flyH (kT K s) D.1)) = _
        rw [ew]
      simp only [e]
      have ih := GG_ref K v hv f β l σ (stpW (kT K) D s (wSo K σ (flyH (kT K s) D.1)))
      rw [Nat.pow_succ, Nat.mul_comm _ 10, Nat.mul_assoc, ih, Nat.mul_left_comm]
    · rw [if_neg c]
      have en : σ (flyH (kT K s) D.1) = none := by
        cases es : σ (flyH (kT K s) D.1) with
        | none => rfl
        | some x => rw [es] at c; exact absurd (Or.inr rfl) c
      have cond := SB_cond v (10 - v) (fun β => f (l.foldl (stp (kT K) (wB K (ov σ β))) (stp (kT K) (wB K (ov σ β)) D s))) (flyH (kT K s) D.1) 10 β (by omega)
      rw [show v + (10 - v) = 10 by omega] at cond
      have et : ∀ β x, stp (kT K) (wB K (ov (va_up σ (flyH (kT K s) D.1) (some x)) β)) D s = stpW (kT K) D s (if x then 4 else kWi K (flyH (kT K s) D.1)) := fun β x => by
        have ew : wB K (ov (va_up σ (flyH (kT K s) D.1) (some x)) β) (flyH (kT K s) D.1) = if x then 4 else kWi K (flyH (kT K s) D.1) := by
          unfold wB ov
          rw [up_s]
        show stpW (kT K) D s (wB K (ov (va_up σ (flyH (kT K s) D.1) (some x)) β) (flyH (kT K s) D.1)) = _
        rw [ew]
      simp only [ov_up en, et, if_true, ff_i] at cond
      have i1 := GG_ref K v hv f β l (va_up σ (flyH (kT K s) D.1) (some true)) (stpW (kT K) D s 4)
      have i2 := GG_ref K v hv f β l (va_up σ (flyH (kT K s) D.1) (some false)) (stpW (kT K) D s (kWi K (flyH (kT K s) D.1)))
      rw [Nat.pow_succ, Nat.mul_assoc, cond, Nat.mul_add, Nat.mul_left_comm, Nat.mul_left_comm (10 ^ l.length) (10 - v), i1, i2, Nat.mul_add, Nat.mul_left_comm v, Nat.mul_left_comm (10 - v)]
/-- odds, what is settled, the day so far -/
abbrev OS : Type := Nat × (Nat → Option Bool) × DK
def ost (K : KT) (v : Nat) (c : Nat → Bool) (t : OS) (s : Nat) : OS := if kWi K (flyH (kT K s) t.2.2.1) = 4 ∨ (t.2.1 (flyH (kT K s) t.2.2.1)).isSome then (if c s then 0 else t.1, t.2.1, stpW (kT K) t.2.2 s (wSo K t.2.1 (flyH (kT K s) t.2.2.1))) else (t.1 / 10 * (if c s then v else 10 - v), va_up t.2.1 (flyH (kT K s) t.2.2.1) (some (c s)), stpW (kT K) t.2.2 s (if c s then 4 else kWi K (flyH (kT K s) t.2.2.1)))
theorem ost_cong {K : KT} {v : Nat} {c c' : Nat → Bool} : ∀ {l : List Nat} {t : OS}, (∀ u, u ∈ l → c u = c' u) → l.foldl (ost K v c) t = l.foldl (ost K v c') t
  | [], _, _ => rfl
  | s :: l, t, h => by
    rw [List.foldl_cons, List.foldl_cons]
    have e : ost K v c t s = ost K v c' t s := by unfold ost; rw [h s (List.mem_cons_self ..)]
    rw [e]
    exact ost_cong fun u hu => h u (List.mem_cons_of_mem _ hu)
theorem ost_0 {K : KT} {v : Nat} {c : Nat → Bool} : ∀ {l : List Nat} {t : OS}, t.1 = 0 → (l.foldl (ost K v c) t).1 = 0
  | [], _, h => h
  | s :: l, t, h => by
    rw [List.foldl_cons]
    refine ost_0 ?_
    unfold ost
    split
    · show (if c s then 0 else t.1) = 0
      rw [h, ite_self]
    · show t.1 / 10 * _ = 0
      rw [h, Nat.zero_div, Nat.zero_mul]
theorem GG_cls (K : KT) (v N : Nat) (f : DK → Nat) (c0 : Nat → Bool) : ∀ (l : List Nat) (σ : Nat → Option Bool) (D : DK) (o : Nat), l.Nodup → (∀ s, s ∈ l → s < N) → 2 ^ l.length * SB 1 1 N (fun c => (l.foldl (ost K v c) (10 ^ l.length * o, σ, D)).1 * f (l.foldl (ost K v c) (10 ^ l.length * o, σ, D)).2.2) c0 = 2 ^ N * (o * GG K v f l σ D)
  | [], σ, D, o, _, _ => by
    show 2 ^ 0 * SB 1 1 N (fun c => 10 ^ 0 * o * f D) c0 = _
    rw [SB_const, GG]
    simp only [Nat.pow_zero, Nat.one_mul]
  | s :: l, σ, D, o, hn, hN => by
    have e2 : ∀ X, 2 ^ (l.length + 1) * X = 2 ^ l.length * ((1 + 1) * X) := fun X => by rw [Nat.pow_succ, Nat.mul_assoc]
    obtain ⟨n1, n2⟩ := List.nodup_cons.mp hn
    have hNl : ∀ u, u ∈ l → u < N := fun u hu => hN u (List.mem_cons_of_mem _ hu)
    have cond := SB_cond 1 1 (fun c => ((s :: l).foldl (ost K v c) (10 ^ (s :: l).length * o, σ, D)).1 * f ((s :: l).foldl (ost K v c) (10 ^ (s :: l).length * o, σ, D)).2.2) s N c0 (hN s (List.mem_cons_self ..))
    simp only [List.foldl_cons, List.length_cons] at cond ⊢
    have ec : ∀ (c : Nat → Bool) (x : Bool) (t : OS), l.foldl (ost K v (va_up c s x)) t = l.foldl (ost K v c) t := fun c x t => ost_cong fun u hu => up_n _ _ (fun e => n1 (e ▸ hu))
    simp only [ec] at cond
    rw [GG]
    by_cases ca : kWi K (flyH (kT K s) D.1) = 4 ∨ (σ (flyH (kT K s) D.1)).isSome
    · rw [if_pos ca]
      have ex : ∀ (c : Nat → Bool) (x : Bool), ost K v (va_up c s x) (10 ^ (l.length + 1) * o, σ, D) s = (if x then 0 else 10 ^ (l.length + 1) * o, σ, stpW (kT K) D s (wSo K σ (flyH (kT K s) D.1))) := fun c x => by
        unfold ost
        rw [if_pos ca, up_s]
      simp only [ex, if_true, ff_i] at cond
      have z : ∀ (c : Nat → Bool) (D' : DK), (l.foldl (ost K v c) (0, σ, D')).1 = 0 := fun c D' => ost_0 rfl
      simp only [z, Nat.zero_mul, SB_const, Nat.mul_zero, Nat.zero_add, Nat.one_mul] at cond
      have ih := GG_cls K v N f c0 l σ (stpW (kT K) D s (wSo K σ (flyH (kT K s) D.1))) (10 * o) n2 hNl
      rw [← Nat.mul_assoc (10 ^ l.length) 10 o, ← Nat.pow_succ] at ih
      rw [e2, cond, ih, Nat.mul_comm 10 o, Nat.mul_assoc]
    · rw [if_neg ca]
      have ex : ∀ (c : Nat → Bool) (x : Bool), ost K v (va_up c s x) (10 ^ (l.length + 1) * o, σ, D) s = (10 ^ (l.length + 1) * o / 10 * (if x then v else 10 - v), va_up σ (flyH (kT K s) D.1) (some x), stpW (kT K) D s (if x then 4 else kWi K (flyH (kT K s) D.1))) := fun c x => by
        unfold ost
        rw [if_neg ca, up_s]
      have e10 : ∀ w, 10 ^ (l.length + 1) * o / 10 * w = 10 ^ l.length * (o * w) := fun w => by
        rw [Nat.pow_succ, Nat.mul_right_comm, Nat.mul_div_cancel _ (by omega), Nat.mul_assoc]
      simp only [ex, if_true, ff_i, e10, Nat.one_mul] at cond
      have i1 := GG_cls K v N f c0 l (va_up σ (flyH (kT K s) D.1) (some true)) (stpW (kT K) D s 4) (o * v) n2 hNl
      have i2 := GG_cls K v N f c0 l (va_up σ (flyH (kT K s) D.1) (some false)) (stpW (kT K) D s (kWi K (flyH (kT K s) D.1))) (o * (10 - v)) n2 hNl
      rw [e2, cond, Nat.mul_add, i1, i2, ← Nat.mul_add, Nat.mul_assoc, Nat.mul_assoc, ← Nat.mul_add]
