-- my own rows: combinators of the pure functions, worlds, and shorter forms of the kit's rows
/-- a name for a value -/
def nm {α β : Type} (e : α) (k : α → β) : β := k e
theorem nm_at {α β : Type} {e x : α} {k : α → β} {b : β} (ex : x = e) (h : nm e k = b) : k x = b := by subst ex; exact h
/-- an index that must be in its row -/
def gd {β : Type} (i : Int32) (n : Nat) (k : Option β) : Option β := if i < 0 ∨ n ≤ i.toNatClampNeg then none else k
theorem gd_at {β : Type} {i : Int32} {n : Nat} {k : Option β} {b : β} (h : gd i n k = some b) : vp_in i n ∧ k = some b := by
  unfold gd at h
  by_cases c : i < 0 ∨ n ≤ i.toNatClampNeg
  · rw [if_pos c] at h; cases h
  · rw [if_neg c] at h; exact ⟨c, h⟩
/-- a divisor that must not be 0 -/
def gz {β : Type} (i : Int32) (k : Option β) : Option β := if i = 0 then none else k
theorem gz_at {β : Type} {i : Int32} {k : Option β} {b : β} (h : gz i k = some b) : ¬ i = 0 ∧ k = some b := by
  unfold gz at h
  by_cases c : i = 0
  · rw [if_pos c] at h; cases h
  · rw [if_neg c] at h; exact ⟨c, h⟩
def gzl {β : Type} (i : Int64) (k : Option β) : Option β := if i = 0 then none else k
theorem gzl_at {β : Type} {i : Int64} {k : Option β} {b : β} (h : gzl i k = some b) : ¬ i = 0 ∧ k = some b := by
  unfold gzl at h
  by_cases c : i = 0
  · rw [if_pos c] at h; cases h
  · rw [if_neg c] at h; exact ⟨c, h⟩
/-- a truth value: 0 or 1 -/
def gb {β : Type} (i : Int32) (k : Option β) : Option β := if i = 0 ∨ i = 1 then k else none
theorem gb_at {β : Type} {i : Int32} {k : Option β} {b : β} (h : gb i k = some b) : narrow .boolean (.int i) = .int i ∧ k = some b := by
  unfold gb at h
  by_cases c : i = 0 ∨ i = 1
  · rw [if_pos c] at h
    rcases c with rfl | rfl <;> exact ⟨rfl, h⟩
  · rw [if_neg c] at h; cases h
theorem gb_fit {β : Type} {i : Int32} {k : Option β} {b : β} (h : gb i k = some b) : fits .boolean (.int i) = true := by
  unfold gb at h
  by_cases c : i = 0 ∨ i = 1
  · rcases c with rfl | rfl <;> rfl
  · rw [if_neg c] at h; cases h
/-- which of two, of four -/
def sel2 {β : Type} (i : Int32) (a b : β) : β := if i.toNatClampNeg = 0 then a else b
def sel4 {β : Type} (i : Int32) (a b c d : β) : β := if i.toNatClampNeg = 0 then a else if i.toNatClampNeg = 1 then b else if i.toNatClampNeg = 2 then c else d
theorem lt2 {k : Nat} (h : k < 2) : k = 0 ∨ k = 1 := by omega
theorem lt4 {k : Nat} (h : k < 4) : k = 0 ∨ k = 1 ∨ k = 2 ∨ k = 3 := by omega
theorem lt5 {k : Nat} (h : k < 5) : k = 0 ∨ k = 1 ∨ k = 2 ∨ k = 3 ∨ k = 4 := by omega
theorem in_lt {i : Int32} {n : Nat} (h : vp_in i n) : i.toNatClampNeg < n := Nat.not_le.mp fun q => h (Or.inr q)
/-- a call's answers -/
def bd1 {α β : Type} (o : Option α) (k : α → Option β) : Option β := match o with
  | none => none
  | some x => k x
def bd2 {α1 α2 β : Type} (o : Option (α1 × α2)) (k : α1 → α2 → Option β) : Option β := match o with
  | none => none
  | some (x, y) => k x y
def bd3 {α1 α2 α3 β : Type} (o : Option (α1 × α2 × α3)) (k : α1 → α2 → α3 → Option β) : Option β := match o with
  | none => none
  | some (x, y, z) => k x y z
def bd4 {α1 α2 α3 α4 β : Type} (o : Option (α1 × α2 × α3 × α4)) (k : α1 → α2 → α3 → α4 → Option β) : Option β := match o with
  | none => none
  | some (x, y, z, u) => k x y z u
def bd5 {α1 α2 α3 α4 α5 β : Type} (o : Option (α1 × α2 × α3 × α4 × α5)) (k : α1 → α2 → α3 → α4 → α5 → Option β) : Option β := match o with
  | none => none
  | some (x, y, z, u, v) => k x y z u v
def bd6 {α1 α2 α3 α4 α5 α6 β : Type} (o : Option (α1 × α2 × α3 × α4 × α5 × α6)) (k : α1 → α2 → α3 → α4 → α5 → α6 → Option β) : Option β := match o with
  | none => none
  | some (x, y, z, u, v, w) => k x y z u v w
def bd7 {α1 α2 α3 α4 α5 α6 α7 β : Type} (o : Option (α1 × α2 × α3 × α4 × α5 × α6 × α7)) (k : α1 → α2 → α3 → α4 → α5 → α6 → α7 → Option β) : Option β := match o with
  | none => none
  | some (x, y, z, u, v, w, a) => k x y z u v w a
def bd8 {α1 α2 α3 α4 α5 α6 α7 α8 β : Type} (o : Option (α1 × α2 × α3 × α4 × α5 × α6 × α7 × α8)) (k : α1 → α2 → α3 → α4 → α5 → α6 → α7 → α8 → Option β) : Option β := match o with
  | none => none
  | some (x, y, z, u, v, w, a, b) => k x y z u v w a b
def bd9 {α1 α2 α3 α4 α5 α6 α7 α8 α9 β : Type} (o : Option (α1 × α2 × α3 × α4 × α5 × α6 × α7 × α8 × α9)) (k : α1 → α2 → α3 → α4 → α5 → α6 → α7 → α8 → α9 → Option β) : Option β := match o with
  | none => none
  | some (x, y, z, u, v, w, a, b, c) => k x y z u v w a b c
def bd10 {α1 α2 α3 α4 α5 α6 α7 α8 α9 α10 β : Type} (o : Option (α1 × α2 × α3 × α4 × α5 × α6 × α7 × α8 × α9 × α10)) (k : α1 → α2 → α3 → α4 → α5 → α6 → α7 → α8 → α9 → α10 → Option β) : Option β := match o with
  | none => none
  | some (x, y, z, u, v, w, a, b, c, d) => k x y z u v w a b c d
def bd11 {α1 α2 α3 α4 α5 α6 α7 α8 α9 α10 α11 β : Type} (o : Option (α1 × α2 × α3 × α4 × α5 × α6 × α7 × α8 × α9 × α10 × α11)) (k : α1 → α2 → α3 → α4 → α5 → α6 → α7 → α8 → α9 → α10 → α11 → Option β) : Option β := match o with
  | none => none
  | some (x, y, z, u, v, w, a, b, c, d, e) => k x y z u v w a b c d e
theorem bd1_at {α β : Type} {o : Option α} {k : α → Option β} {b : β} (h : bd1 o k = some b) : ∃ x, o = some x ∧ k x = some b := by
  cases o with
  | none => cases h
  | some x => exact ⟨x, rfl, h⟩
theorem bd2_at {α1 α2 β : Type} {o : Option (α1 × α2)} {k : α1 → α2 → Option β} {b : β} (h : bd2 o k = some b) : ∃ x y, o = some (x, y) ∧ k x y = some b := by
  cases o with
  | none => cases h
  | some x => exact ⟨x.1, x.2, rfl, h⟩
theorem bd3_at {α1 α2 α3 β : Type} {o : Option (α1 × α2 × α3)} {k : α1 → α2 → α3 → Option β} {b : β} (h : bd3 o k = some b) : ∃ x y z, o = some (x, y, z) ∧ k x y z = some b := by
  cases o with
  | none => cases h
  | some x => exact ⟨_, _, _, rfl, h⟩
theorem bd4_at {α1 α2 α3 α4 β : Type} {o : Option (α1 × α2 × α3 × α4)} {k : α1 → α2 → α3 → α4 → Option β} {b : β} (h : bd4 o k = some b) : ∃ x y z u, o = some (x, y, z, u) ∧ k x y z u = some b := by
  cases o with
  | none => cases h
  | some x => exact ⟨_, _, _, _, rfl, h⟩
theorem bd5_at {α1 α2 α3 α4 α5 β : Type} {o : Option (α1 × α2 × α3 × α4 × α5)} {k : α1 → α2 → α3 → α4 → α5 → Option β} {b : β} (h : bd5 o k = some b) : ∃ x y z u v, o = some (x, y, z, u, v) ∧ k x y z u v = some b := by
  cases o with
  | none => cases h
  | some x => exact ⟨_, _, _, _, _, rfl, h⟩
theorem bd6_at {α1 α2 α3 α4 α5 α6 β : Type} {o : Option (α1 × α2 × α3 × α4 × α5 × α6)} {k : α1 → α2 → α3 → α4 → α5 → α6 → Option β} {b : β} (h : bd6 o k = some b) : ∃ x y z u v w, o = some (x, y, z, u, v, w) ∧ k x y z u v w = some b := by
  cases o with
  | none => cases h
  | some x => exact ⟨_, _, _, _, _, _, rfl, h⟩
theorem bd7_at {α1 α2 α3 α4 α5 α6 α7 β : Type} {o : Option (α1 × α2 × α3 × α4 × α5 × α6 × α7)} {k : α1 → α2 → α3 → α4 → α5 → α6 → α7 → Option β} {b : β} (h : bd7 o k = some b) : ∃ x y z u v w a, o = some (x, y, z, u, v, w, a) ∧ k x y z u v w a = some b := by
  cases o with
  | none => cases h
  | some x => exact ⟨_, _, _, _, _, _, _, rfl, h⟩
theorem bd8_at {α1 α2 α3 α4 α5 α6 α7 α8 β : Type} {o : Option (α1 × α2 × α3 × α4 × α5 × α6 × α7 × α8)} {k : α1 → α2 → α3 → α4 → α5 → α6 → α7 → α8 → Option β} {b : β} (h : bd8 o k = some b) : ∃ x y z u v w a c, o = some (x, y, z, u, v, w, a, c) ∧ k x y z u v w a c = some b := by
  cases o with
  | none => cases h
  | some x => exact ⟨_, _, _, _, _, _, _, _, rfl, h⟩
theorem bd9_at {α1 α2 α3 α4 α5 α6 α7 α8 α9 β : Type} {o : Option (α1 × α2 × α3 × α4 × α5 × α6 × α7 × α8 × α9)} {k : α1 → α2 → α3 → α4 → α5 → α6 → α7 → α8 → α9 → Option β} {b : β} (h : bd9 o k = some b) : ∃ x y z u v w a c d, o = some (x, y, z, u, v, w, a, c, d) ∧ k x y z u v w a c d = some b := by
  cases o with
  | none => cases h
  | some x => exact ⟨_, _, _, _, _, _, _, _, _, rfl, h⟩
theorem bd10_at {α1 α2 α3 α4 α5 α6 α7 α8 α9 α10 β : Type} {o : Option (α1 × α2 × α3 × α4 × α5 × α6 × α7 × α8 × α9 × α10)} {k : α1 → α2 → α3 → α4 → α5 → α6 → α7 → α8 → α9 → α10 → Option β} {b : β} (h : bd10 o k = some b) : ∃ x y z u v w a c d f, o = some (x, y, z, u, v, w, a, c, d, f) ∧ k x y z u v w a c d f = some b := by
  cases o with
  | none => cases h
  | some x => exact ⟨_, _, _, _, _, _, _, _, _, _, rfl, h⟩
theorem bd11_at {α1 α2 α3 α4 α5 α6 α7 α8 α9 α10 α11 β : Type} {o : Option (α1 × α2 × α3 × α4 × α5 × α6 × α7 × α8 × α9 × α10 × α11)} {k : α1 → α2 → α3 → α4 → α5 → α6 → α7 → α8 → α9 → α10 → α11 → Option β} {b : β} (h : bd11 o k = some b) : ∃ x y z u v w a c d f i, o = some (x, y, z, u, v, w, a, c, d, f, i) ∧ k x y z u v w a c d f i = some b := by
  cases o with
  | none => cases h
  | some x => exact ⟨_, _, _, _, _, _, _, _, _, _, _, rfl, h⟩
/-- the classes' numbers; the array classes: 0 int, 1 boolean, 2 byte, 3 int[], 4 Coast, 5 Sheet -/
abbrev Gx : Type := va_G × (Nat → ClassId)
abbrev tyl (g : Gx) : List (ClassId × FieldType) := [(g.2 0, .int), (g.2 1, .boolean), (g.2 2, .byte), (g.2 3, .array .int), (g.2 4, .object "VoiceFall$Coast"), (g.2 5, .object "VoiceFall$Sheet")]
abbrev AI : Type := Nat → Int32
abbrev CT : Type := Int64 × AI × (Nat → AI) × Int32 × AI × Int32 × AI × AI × Int32
abbrev DT : Type := AI × AI × AI × Int64 × AI × AI × Int32
abbrev RT : Type := AI × Int32 × Int32 × Int32 × Int32 × Int32 × Int32 × Int32 × Int32
abbrev ST : Type := Int32 × Int32 × Int32 × AI
abbrev VT : Type := AI × AI × Int32
abbrev arI (g : Gx) (a n : Nat) (f : AI) : Nat × va_E := (a, .inl (g.2 0, n, .inl f))
abbrev arZ (g : Gx) (a n : Nat) (f : AI) : Nat × va_E := (a, .inl (g.2 1, n, .inl f))
abbrev arB (g : Gx) (a n : Nat) (f : AI) : Nat × va_E := (a, .inl (g.2 2, n, .inl f))
abbrev arR (cA : ClassId) (a n : Nat) (f : Nat → Option Nat) : Nat × va_E := (a, .inl (cA, n, .inr (.inr (.inr (.inr f)))))
def wC (g : Gx) (b : Nat → Nat) (x : CT) : va_W := [(b 0, .inr (0, [.long x.1, .ref (b 1), .ref (b 2), .int x.2.2.2.1, .ref (b 8), .int x.2.2.2.2.2.1, .ref (b 9), .ref (b 10), .int x.2.2.2.2.2.2.2.2])), arI g (b 1) 10 x.2.1, arR (g.2 3) (b 2) 5 (fun k => some (b (3 + k))), arI g (b 3) 5 (x.2.2.1 0), arI g (b 4) 5 (x.2.2.1 1), arI g (b 5) 5 (x.2.2.1 2), arI g (b 6) 5 (x.2.2.1 3), arI g (b 7) 5 (x.2.2.1 4), arI g (b 8) 4 x.2.2.2.2.1, arI g (b 9) 6 x.2.2.2.2.2.2.1, arI g (b 10) 6 x.2.2.2.2.2.2.2.1]
def wD (g : Gx) (b : Nat → Nat) (x : DT) : va_W := [(b 0, .inr (1, [.ref (b 1), .ref (b 2), .ref (b 3), .long x.2.2.2.1, .ref (b 4), .ref (b 5), .int x.2.2.2.2.2.2])), arI g (b 1) 5 x.1, arI g (b 2) 5 x.2.1, arI g (b 3) 5 x.2.2.1, arI g (b 4) 10 x.2.2.2.2.1, arI g (b 5) 5 x.2.2.2.2.2.1]
def wR (g : Gx) (b dr : Nat → Nat) (x : RT) : va_W := [(b 0, .inr (2, [.ref (b 1), .int x.2.1, .ref (dr 0), .int x.2.2.1, .int x.2.2.2.1, .int x.2.2.2.2.1, .int x.2.2.2.2.2.1, .int x.2.2.2.2.2.2.1, .int x.2.2.2.2.2.2.2.1, .int x.2.2.2.2.2.2.2.2])), arB g (b 1) 160 x.1]
def wS (g : Gx) (b : Nat → Nat) (x : ST) : va_W := [(b 0, .inr (3, [.int x.1, .int x.2.1, .int x.2.2.1, .ref (b 1)])), arI g (b 1) 40 x.2.2.2]
abbrev im2 (a b : Nat) : Nat → Option Nat := fun k => if k = 0 then some a else some b
abbrev sh4 (a b c d : Nat) : Nat → Option Nat := fun k => if k = 0 then some a else if k = 1 then some b else if k = 2 then some c else some d
def wV (g : Gx) (b rd nw tr da i0 i1 s0 s1 s2 s3 : Nat → Nat) (x : VT) : va_W := [(b 0, .inr (4, [.ref (rd 0), .ref (nw 0), .ref (tr 0), .ref (da 0), .ref (b 1), .ref (b 2), .ref (b 3), .ref (b 4), .int x.2.2])), arI g (b 1) 64 x.1, arR (g.2 4) (b 2) 2 (im2 (i0 0) (i1 0)), arZ g (b 3) 2 x.2.1, arR (g.2 5) (b 4) 4 (sh4 (s0 0) (s1 0) (s2 0) (s3 0))]
def wM (g : Gx) (b : Nat → Nat) (st now isKept : AI) (hearers : Int32) (draft : AI) (dHearers dWalls toldWinds : Int32) (tape : AI) (taped pos frm sort value fault wrongAt : Int32) (landed landedIn stepped isThere isAt isNext : AI) (landSum heardSum allWays : Int64) (ways drawn lanes sizes cells : AI) (torn : Int32) (before : AI) : va_W := [(b 0, .inr (5, [.ref (b 1), .ref (b 2), .ref (b 3), .int hearers, .ref (b 4), .int dHearers, .int dWalls, .int toldWinds, .ref (b 5), .int taped, .int pos, .int frm, .int sort, .int value, .int fault, .int wrongAt, .ref (b 6), .ref (b 7), .ref (b 8), .ref (b 9), .ref (b 10), .ref (b 11), .long landSum, .long heardSum, .long allWays, .ref (b 12), .ref (b 13), .ref (b 14), .ref (b 15), .ref (b 16), .int torn, .ref (b 17)])), arI g (b 1) 183 st, arI g (b 2) 61 now, arZ g (b 3) 2 isKept, arI g (b 4) 61 draft, arI g (b 5) 160 tape, arI g (b 6) 5 landed, arI g (b 7) 5 landedIn, arI g (b 8) 5 stepped, arZ g (b 9) 80 isThere, arZ g (b 10) 80 isAt, arZ g (b 11) 80 isNext, arI g (b 12) 400 ways, arI g (b 13) 10 drawn, arI g (b 14) 4 lanes, arI g (b 15) 4 sizes, arI g (b 16) 160 cells, arI g (b 17) 61 before]
-- setters
abbrev cW (x : CT) := x.1
abbrev cWi (x : CT) := x.2.1
abbrev cTo (x : CT) := x.2.2.1
abbrev cSa (x : CT) := x.2.2.2.1
abbrev cAt (x : CT) := x.2.2.2.2.1
abbrev cHe (x : CT) := x.2.2.2.2.2.1
abbrev cSs (x : CT) := x.2.2.2.2.2.2.1
abbrev cSp (x : CT) := x.2.2.2.2.2.2.2.1
abbrev cSe (x : CT) := x.2.2.2.2.2.2.2.2
abbrev cW' (x : CT) (v : Int64) : CT := (v, x.2)
abbrev cWi' (x : CT) (v : AI) : CT := (x.1, v, x.2.2)
abbrev cTo' (x : CT) (v : Nat → AI) : CT := (x.1, x.2.1, v, x.2.2.2)
abbrev cSa' (x : CT) (v : Int32) : CT := (x.1, x.2.1, x.2.2.1, v, x.2.2.2.2)
abbrev cAt' (x : CT) (v : AI) : CT := (x.1, x.2.1, x.2.2.1, x.2.2.2.1, v, x.2.2.2.2.2)
abbrev cHe' (x : CT) (v : Int32) : CT := (x.1, x.2.1, x.2.2.1, x.2.2.2.1, x.2.2.2.2.1, v, x.2.2.2.2.2.2)
abbrev cSs' (x : CT) (v : AI) : CT := (x.1, x.2.1, x.2.2.1, x.2.2.2.1, x.2.2.2.2.1, x.2.2.2.2.2.1, v, x.2.2.2.2.2.2.2)
abbrev cSp' (x : CT) (v : AI) : CT := (x.1, x.2.1, x.2.2.1, x.2.2.2.1, x.2.2.2.2.1, x.2.2.2.2.2.1, x.2.2.2.2.2.2.1, v, x.2.2.2.2.2.2.2.2)
abbrev cSe' (x : CT) (v : Int32) : CT := (x.1, x.2.1, x.2.2.1, x.2.2.2.1, x.2.2.2.2.1, x.2.2.2.2.2.1, x.2.2.2.2.2.2.1, x.2.2.2.2.2.2.2.1, v)
abbrev dPl (x : DT) := x.1
abbrev dHo (x : DT) := x.2.1
abbrev dSt (x : DT) := x.2.2.1
abbrev dW (x : DT) := x.2.2.2.1
abbrev dWi (x : DT) := x.2.2.2.2.1
abbrev dOr (x : DT) := x.2.2.2.2.2.1
abbrev dSa (x : DT) := x.2.2.2.2.2.2
abbrev dPl' (x : DT) (v : AI) : DT := (v, x.2)
abbrev dHo' (x : DT) (v : AI) : DT := (x.1, v, x.2.2)
abbrev dSt' (x : DT) (v : AI) : DT := (x.1, x.2.1, v, x.2.2.2)
abbrev dW' (x : DT) (v : Int64) : DT := (x.1, x.2.1, x.2.2.1, v, x.2.2.2.2)
abbrev dWi' (x : DT) (v : AI) : DT := (x.1, x.2.1, x.2.2.1, x.2.2.2.1, v, x.2.2.2.2.2)
abbrev dOr' (x : DT) (v : AI) : DT := (x.1, x.2.1, x.2.2.1, x.2.2.2.1, x.2.2.2.2.1, v, x.2.2.2.2.2.2)
abbrev dSa' (x : DT) (v : Int32) : DT := (x.1, x.2.1, x.2.2.1, x.2.2.2.1, x.2.2.2.2.1, x.2.2.2.2.2.1, v)
abbrev rTa (x : RT) := x.1
abbrev rSz (x : RT) := x.2.1
abbrev rFl (x : RT) := x.2.2.1
abbrev rPl (x : RT) := x.2.2.2.1
abbrev rAt (x : RT) := x.2.2.2.2.1
abbrev rTo (x : RT) := x.2.2.2.2.2.1
abbrev rSt (x : RT) := x.2.2.2.2.2.2.1
abbrev rVa (x : RT) := x.2.2.2.2.2.2.2.1
abbrev rTh (x : RT) := x.2.2.2.2.2.2.2.2
abbrev rTa' (x : RT) (v : AI) : RT := (v, x.2)
abbrev rSz' (x : RT) (v : Int32) : RT := (x.1, v, x.2.2)
abbrev rFl' (x : RT) (v : Int32) : RT := (x.1, x.2.1, v, x.2.2.2)
abbrev rPl' (x : RT) (v : Int32) : RT := (x.1, x.2.1, x.2.2.1, v, x.2.2.2.2)
abbrev rAt' (x : RT) (v : Int32) : RT := (x.1, x.2.1, x.2.2.1, x.2.2.2.1, v, x.2.2.2.2.2)
abbrev rTo' (x : RT) (v : Int32) : RT := (x.1, x.2.1, x.2.2.1, x.2.2.2.1, x.2.2.2.2.1, v, x.2.2.2.2.2.2)
abbrev rSt' (x : RT) (v : Int32) : RT := (x.1, x.2.1, x.2.2.1, x.2.2.2.1, x.2.2.2.2.1, x.2.2.2.2.2.1, v, x.2.2.2.2.2.2.2)
abbrev rVa' (x : RT) (v : Int32) : RT := (x.1, x.2.1, x.2.2.1, x.2.2.2.1, x.2.2.2.2.1, x.2.2.2.2.2.1, x.2.2.2.2.2.2.1, v, x.2.2.2.2.2.2.2.2)
abbrev rTh' (x : RT) (v : Int32) : RT := (x.1, x.2.1, x.2.2.1, x.2.2.2.1, x.2.2.2.2.1, x.2.2.2.2.2.1, x.2.2.2.2.2.2.1, x.2.2.2.2.2.2.2.1, v)
abbrev sIs (x : ST) := x.1
abbrev sLa (x : ST) := x.2.1
abbrev sSz (x : ST) := x.2.2.1
abbrev sCe (x : ST) := x.2.2.2
abbrev sIs' (x : ST) (v : Int32) : ST := (v, x.2)
abbrev sLa' (x : ST) (v : Int32) : ST := (x.1, v, x.2.2)
abbrev sSz' (x : ST) (v : Int32) : ST := (x.1, x.2.1, v, x.2.2.2)
abbrev sCe' (x : ST) (v : AI) : ST := (x.1, x.2.1, x.2.2.1, v)
abbrev vTa (x : VT) := x.1
abbrev vKe (x : VT) := x.2.1
abbrev vLt (x : VT) := x.2.2
abbrev vTa' (x : VT) (v : AI) : VT := (v, x.2)
abbrev vKe' (x : VT) (v : AI) : VT := (x.1, v, x.2.2)
abbrev vLt' (x : VT) (v : Int32) : VT := (x.1, x.2.1, v)
-- worlds: read alone, or changed
def RO (g : Gx) (ws : va_W) (U : State) : Prop := va_P g.1 vwCl ws U.heap ∧ va_K g.1 vwCl (tyl g) U
def RWp (g : Gx) (sz : Nat) (ws : va_W) (U : State) : Prop := U.heap.size = sz ∧ va_P g.1 vwCl ws U.heap ∧ va_K g.1 vwCl (tyl g) U ∧ va_D (fun _ => True) ws
def RWq (g : Gx) (A : Nat → Prop) (ws : va_W) (t : State) : Prop := va_P g.1 vwCl ws t.heap ∧ va_K g.1 vwCl (tyl g) t ∧ va_D A ws
def Wd (g : Gx) (A : Nat → Prop) (H0 : Heap) (ws : va_W) (H : Heap) (locs : List Loc) : Prop := va_P g.1 vwCl ws H ∧ va_D A ws ∧ va_S A H0 H locs
theorem RO_blind {g : Gx} {ws : va_W} {As : List Value} : FrameBlind (va_Pc As (RO g ws)) := fun a U q mk h => ⟨h.1, h.2.1, va_K.moved (u := U) (U := U.calling q mk a) (Vm.Alike.refl U.vm) h.2.2⟩
theorem RW_blind {g : Gx} {sz : Nat} {ws : va_W} {As : List Value} : FrameBlind (va_Pc As (RWp g sz ws)) := fun a U q mk h => ⟨h.1, h.2.1, h.2.2.1, va_K.moved (u := U) (U := U.calling q mk a) (Vm.Alike.refl U.vm) h.2.2.2.1, h.2.2.2.2⟩
theorem TT_blind {As : List Value} : FrameBlind (va_Pc As (fun _ => True)) := fun _ _ _ _ h => h
