-- one mathematical value for both sides: a coast by places 0 .. 63 (8 times x and y)
/-- how many below n -/
def ct (p : Nat → Bool) : Nat → Nat
  | 0 => 0
  | n + 1 => ct p n + (if p n then 1 else 0)
/-- WALLS as bits, WINDS, SAYINGS (how many; KIND, FROM, WAY, FORCE, HOUR of each), HEARERS (how many; where), SEEN (how many; which; where) -/
abbrev KT : Type := Nat × (Nat → Nat) × Nat × (Nat → Nat → Nat) × Nat × (Nat → Nat) × Nat × (Nat → Nat) × (Nat → Nat)
abbrev kW (K : KT) := K.1
abbrev kWi (K : KT) := K.2.1
abbrev kN (K : KT) := K.2.2.1
abbrev kT (K : KT) := K.2.2.2.1
abbrev kH (K : KT) := K.2.2.2.2.1
abbrev kHp (K : KT) := K.2.2.2.2.2.1
abbrev kS (K : KT) := K.2.2.2.2.2.2.1
abbrev kSs (K : KT) := K.2.2.2.2.2.2.2.1
abbrev kSp (K : KT) := K.2.2.2.2.2.2.2.2
/-- the name of a place -/
def cell (p : Nat) : Nat := 10 * (p / 8) + p % 8
/-- a number as it stands in the rows -/
def tv (t : Nat → Nat) (k : Nat) : Nat := if k = 1 then cell (t 1) else t k
def pcnt (W : Nat) : Nat := ct (fun i => W.testBit i) 64
def okT (t : Nat → Nat) : Prop := t 0 ≤ 3 ∧ t 1 < 64 ∧ t 2 ≤ 3 ∧ 1 ≤ t 3 ∧ t 3 ≤ 9 ∧ t 4 ≤ 9
def WFk (K : KT) : Prop := kW K < 2 ^ 64 ∧ pcnt (kW K) ≤ 12 ∧ (∀ h, h < 10 → kWi K h ≤ 4) ∧ kN K ≤ 5 ∧ (∀ s, s < kN K → okT (kT K s)) ∧ kH K ≤ 4 ∧ (∀ h, h < kH K → kHp K h < 64) ∧ kS K ≤ 6 ∧ ∀ i, i < kS K → kSs K i < kN K ∧ kSp K i < 64
/-- the class's coast -/
def RCc (K : KT) (c : CT) : Prop := (cW c).toBitVec.toNat = kW K ∧ (∀ h, h < 10 → cWi c h = nI (kWi K h)) ∧ cSa c = nI (kN K) ∧ (∀ s, s < kN K → ∀ k, k < 5 → cTo c s k = nI (tv (kT K s) k)) ∧ cHe c = nI (kH K) ∧ (∀ h, h < kH K → cAt c h = nI (cell (kHp K h))) ∧ cSe c = nI (kS K) ∧ (∀ i, i < kS K → cSs c i = nI (kSs K i)) ∧ ∀ i, i < kS K → cSp c i = nI (kSp K i)
/-- the reference's, at a place of its row -/
def RCm (K : KT) (st : AI) (o : Nat) (hearers : Int32) : Prop := (∀ x, x < 8 → st (o + x) = nI (kW K / 2 ^ (8 * x) % 256)) ∧ (∀ h, h < 10 → st (o + (8 + h)) = nI (kWi K h)) ∧ st (o + 43) = nI (kN K) ∧ (∀ s, s < kN K → ∀ k, k < 5 → st (o + (18 + 5 * s + k)) = nI (tv (kT K s) k)) ∧ hearers = nI (kH K) ∧ (∀ h, h < kH K → st (o + (44 + h)) = nI (cell (kHp K h))) ∧ st (o + 48) = nI (kS K) ∧ (∀ i, i < kS K → st (o + (49 + 2 * i)) = nI (kSs K i)) ∧ ∀ i, i < kS K → st (o + (50 + 2 * i)) = nI (cell (kSp K i))
def RC (K : KT) (c : CT) (st : AI) (o : Nat) (hearers : Int32) : Prop := WFk K ∧ RCc K c ∧ RCm K st o hearers
/-- an IMAGE -/
def RI (k : Nat) (v : VT) (c : CT) (st isKept : AI) (hearers : Int32) : Prop := vKe v k = isKept k ∧ (isKept k = 0 ∨ isKept k = 1 ∧ ∃ K, RC K c st (61 * (k + 1)) hearers)
/-- a SHEET -/
def RS (k : Nat) (s : ST) (lanes sizes cells : AI) : Prop := (sIs s = 0 ∧ lanes k = -4 ∨ sIs s = 1 ∧ (∃ q, q < 3 ∧ sLa s = nI q ∧ lanes k = nI q) ∧ ∃ n, n ≤ 40 ∧ sSz s = nI n ∧ sizes k = nI n) ∧ ∀ i, i < 40 → cells (40 * k + i) = sCe s i
def RTp (r : RT) (tape : AI) (taped : Int32) : Prop := ∃ n, n ≤ 160 ∧ rSz r = nI n ∧ taped = nI n ∧ ∀ i, i < n → ∃ b, b < 128 ∧ rTa r i = nI b ∧ tape i = nI b
/-- what holds between the class and the reference, call by call -/
def Rel (v : VT) (rd : RT) (nw i0 i1 : CT) (s0 s1 s2 s3 : ST) (st isKept : AI) (hearers : Int32) (tape : AI) (taped fault : Int32) (lanes sizes cells : AI) (torn : Int32) : Prop :=
  (∃ K, RC K nw st 0 hearers) ∧ RI 0 v i0 st isKept hearers ∧ RI 1 v i1 st isKept hearers ∧ RTp rd tape taped ∧ rFl rd = fault ∧ RS 0 s0 lanes sizes cells ∧ RS 1 s1 lanes sizes cells ∧ RS 2 s2 lanes sizes cells ∧ RS 3 s3 lanes sizes cells ∧ vLt v = torn
