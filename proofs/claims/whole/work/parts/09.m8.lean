/-! ===== orders of a list: a number with two bits a place ===== -/
def tA (c j : Nat) : Nat := c / 4 ^ j % 4
def msk (c : Nat) : Nat → Nat
  | 0 => 0
  | j + 1 => msk c j ||| (1 <<< tA c j)
def isO (t c : Nat) : Bool := Nat.beq (msk c t) (2 ^ t - 1) && Nat.beq (c / 4 ^ t) 0
def oT (t : Nat) : List Nat := match t with
  | 1 => [0]
  | 2 => [1, 4]
  | 3 => [6, 9, 18, 24, 33, 36]
  | _ => [27, 30, 39, 45, 54, 57, 75, 78, 99, 108, 114, 120, 135, 141, 147, 156, 177, 180, 198, 201, 210, 216, 225, 228]
def oC (t i : Nat) : Nat := ((oT t)[i]?).getD 0
/-- the orders among the numbers below c -/
def pre (t : Nat) : Nat → List Nat
  | 0 => []
  | c + 1 => if isO t c then pre t c ++ [c] else pre t c
def oN (t : Nat) : Nat := (oT t).length
/-- the place of x: the first of the places j, j + 1, .. that holds it, the n-th from there on at last -/
def plA (c x : Nat) : Nat → Nat → Nat
  | 0, j => j
  | n + 1, j => if tA c j = x then j else plA c x n (j + 1)
def pl (t c x : Nat) : Nat := plA c x (t - 1) 0
def exc (c j : Nat) : Nat := c - tA c j * 4 ^ j - tA c (j + 1) * 4 ^ (j + 1) + tA c (j + 1) * 4 ^ j + tA c j * 4 ^ (j + 1)
def fo : Nat → Nat
  | 0 => 0
  | t + 1 => fo t + t * 4 ^ t
def mtf (c : Nat) : Nat → Nat
  | 0 => c
  | p + 1 => mtf (exc c p) p
def dI (t c d a b : Nat) : Nat := if decide (pl t c a < pl t c b) = decide (pl t d a < pl t d b) then 0 else 1
def dB (t c d a : Nat) : Nat → Nat
  | 0 => 0
  | b + 1 => dB t c d a b + dI t c d a b
def dA (t c d : Nat) : Nat → Nat
  | 0 => 0
  | a + 1 => dA t c d a + dB t c d a a
def dst (t c d : Nat) : Nat := dA t c d t
def cB (t o p x a : Nat) : Nat → Bool
  | 0 => true
  | b + 1 => cB t o p x a b && (decide (a = x) || decide (b = x) || decide (pl t o a < pl t o b) == decide (pl t p a < pl t p b))
def cA (t o p x : Nat) : Nat → Bool
  | 0 => decide (pl t p x ≤ pl t o x)
  | a + 1 => cA t o p x a && cB t o p x a a
def cO (t o p x : Nat) : Bool := cA t o p x t
/-! facts of the few orders there are, by trying all -/
theorem f_all {P : Nat → Prop} {t : Nat} (h1 : 1 ≤ t) (h4 : t ≤ 4) (p1 : P 1) (p2 : P 2) (p3 : P 3) (p4 : P 4) : P t := by
  rcases (show t = 1 ∨ t = 2 ∨ t = 3 ∨ t = 4 by omega) with rfl | rfl | rfl | rfl
  · exact p1
  · exact p2
  · exact p3
  · exact p4
set_option maxRecDepth 100000 in
theorem f_lt {t : Nat} (h1 : 1 ≤ t) (h4 : t ≤ 4) : ∀ c ∈ oT t, c < 256 := f_all (P := fun t => ∀ c ∈ oT t, c < 256) h1 h4 (by decide +kernel) (by decide +kernel) (by decide +kernel) (by decide +kernel)
set_option maxRecDepth 100000 in
theorem f_pl {t : Nat} (h1 : 1 ≤ t) (h4 : t ≤ 4) : ∀ c ∈ oT t, ∀ x, x < t → pl t c x < t ∧ tA c (pl t c x) = x ∧ ∀ j, j < pl t c x → ¬ tA c j = x := f_all (P := fun t => ∀ c ∈ oT t, ∀ x, x < t → pl t c x < t ∧ tA c (pl t c x) = x ∧ ∀ j, j < pl t c x → ¬ tA c j = x) h1 h4 (by decide +kernel) (by decide +kernel) (by decide +kernel) (by decide +kernel)
set_option maxRecDepth 100000 in
theorem f_at {t : Nat} (h1 : 1 ≤ t) (h4 : t ≤ 4) : ∀ c ∈ oT t, ∀ x, x < t → ∀ j, j < t → (tA c j = x ↔ pl t c x = j) := f_all (P := fun t => ∀ c ∈ oT t, ∀ x, x < t → ∀ j, j < t → (tA c j = x ↔ pl t c x = j)) h1 h4 (by decide +kernel) (by decide +kernel) (by decide +kernel) (by decide +kernel)
set_option maxRecDepth 100000 in
theorem f_dg {t : Nat} (h1 : 1 ≤ t) (h4 : t ≤ 4) : ∀ c ∈ oT t, ∀ j, j < t → tA c j < t := f_all (P := fun t => ∀ c ∈ oT t, ∀ j, j < t → tA c j < t) h1 h4 (by decide +kernel) (by decide +kernel) (by decide +kernel) (by decide +kernel)
set_option maxRecDepth 100000 in
theorem f_ex {t : Nat} (h1 : 1 ≤ t) (h4 : t ≤ 4) : ∀ c ∈ oT t, ∀ j, j < t - 1 → exc c j ∈ oT t ∧ ¬ exc c j = c ∧ exc (exc c j) j = c := f_all (P := fun t => ∀ c ∈ oT t, ∀ j, j < t - 1 → exc c j ∈ oT t ∧ ¬ exc c j = c ∧ exc (exc c j) j = c) h1 h4 (by decide +kernel) (by decide +kernel) (by decide +kernel) (by decide +kernel)
set_option maxRecDepth 100000 in
theorem f_fo {t : Nat} (h1 : 1 ≤ t) (h4 : t ≤ 4) : fo t ∈ oT t ∧ (∀ j, j < t → tA (fo t) j = j) ∧ ∀ c ∈ oT t, (∀ j, j < t → tA c j = j) → c = fo t := f_all (P := fun t => fo t ∈ oT t ∧ (∀ j, j < t → tA (fo t) j = j) ∧ ∀ c ∈ oT t, (∀ j, j < t → tA c j = j) → c = fo t) h1 h4 (by decide +kernel) (by decide +kernel) (by decide +kernel) (by decide +kernel)
set_option maxRecDepth 100000 in
theorem f_mt {t : Nat} (h1 : 1 ≤ t) (h4 : t ≤ 4) : ∀ c ∈ oT t, ∀ x, x < t → mtf c (pl t c x) ∈ oT t ∧ ∀ j, j < t → tA (mtf c (pl t c x)) j = if j = 0 then x else if j ≤ pl t c x then tA c (j - 1) else tA c j := f_all (P := fun t => ∀ c ∈ oT t, ∀ x, x < t → mtf c (pl t c x) ∈ oT t ∧ ∀ j, j < t → tA (mtf c (pl t c x)) j = if j = 0 then x else if j ≤ pl t c x then tA c (j - 1) else tA c j) h1 h4 (by decide +kernel) (by decide +kernel) (by decide +kernel) (by decide +kernel)
set_option maxRecDepth 100000 in
theorem f_d1 {t : Nat} (h1 : 1 ≤ t) (h4 : t ≤ 4) : ∀ c ∈ oT t, dst t c c = 0 := f_all (P := fun t => ∀ c ∈ oT t, dst t c c = 0) h1 h4 (by decide +kernel) (by decide +kernel) (by decide +kernel) (by decide +kernel)
set_option maxRecDepth 100000 in
theorem f_d2 {t : Nat} (h1 : 1 ≤ t) (h4 : t ≤ 4) : ∀ c0 ∈ oT t, ∀ c ∈ oT t, ∀ j, j < t - 1 → dst t c0 (exc c j) ≤ dst t c0 c + 1 := f_all (P := fun t => ∀ c0 ∈ oT t, ∀ c ∈ oT t, ∀ j, j < t - 1 → dst t c0 (exc c j) ≤ dst t c0 c + 1) h1 h4 (by decide +kernel) (by decide +kernel) (by decide +kernel) (by decide +kernel)
set_option maxRecDepth 100000 in
theorem f_d3 {t : Nat} (h1 : 1 ≤ t) (h4 : t ≤ 4) : ∀ c0 ∈ oT t, ∀ c ∈ oT t, c0 = c ∨ ∃ j, j < t - 1 ∧ dst t c0 (exc c j) + 1 = dst t c0 c := f_all (P := fun t => ∀ c0 ∈ oT t, ∀ c ∈ oT t, c0 = c ∨ ∃ j, j < t - 1 ∧ dst t c0 (exc c j) + 1 = dst t c0 c) h1 h4 (by decide +kernel) (by decide +kernel) (by decide +kernel) (by decide +kernel)
set_option maxRecDepth 100000 in
theorem f_d4 {t : Nat} (h1 : 1 ≤ t) (h4 : t ≤ 4) : ∀ c0 ∈ oT t, ∀ c ∈ oT t, dst t c0 c ≤ t * (t - 1) / 2 := f_all (P := fun t => ∀ c0 ∈ oT t, ∀ c ∈ oT t, dst t c0 c ≤ t * (t - 1) / 2) h1 h4 (by decide +kernel) (by decide +kernel) (by decide +kernel) (by decide +kernel)
set_option maxRecDepth 100000 in
theorem f_c1 {t : Nat} (h1 : 1 ≤ t) (h4 : t ≤ 4) : ∀ o ∈ oT t, ∀ p ∈ oT t, ∀ x, x < t → cO t o p x = (decide (o = p) || (decide (pl t p x + 1 < t) && cO t o (exc p (pl t p x)) x)) := f_all (P := fun t => ∀ o ∈ oT t, ∀ p ∈ oT t, ∀ x, x < t → cO t o p x = (decide (o = p) || (decide (pl t p x + 1 < t) && cO t o (exc p (pl t p x)) x))) h1 h4 (by decide +kernel) (by decide +kernel) (by decide +kernel) (by decide +kernel)
set_option maxRecDepth 100000 in
theorem f_c2 {t : Nat} (h1 : 1 ≤ t) (h4 : t ≤ 4) : ∀ p ∈ oT t, ∀ x, x < t → pl t p x + 1 < t → pl t (exc p (pl t p x)) x = pl t p x + 1 := f_all (P := fun t => ∀ p ∈ oT t, ∀ x, x < t → pl t p x + 1 < t → pl t (exc p (pl t p x)) x = pl t p x + 1) h1 h4 (by decide +kernel) (by decide +kernel) (by decide +kernel) (by decide +kernel)
set_option maxRecDepth 100000 in
theorem f_c3 {t : Nat} (h1 : 1 ≤ t) (h4 : t ≤ 4) : ∀ c ∈ oT t, ∀ x, x < t → 1 ≤ pl t c x → pl t (exc c (pl t c x - 1)) x = pl t c x - 1 ∧ exc (exc c (pl t c x - 1)) (pl t c x - 1) = c ∧ exc c (pl t c x - 1) ∈ oT t := f_all (P := fun t => ∀ c ∈ oT t, ∀ x, x < t → 1 ≤ pl t c x → pl t (exc c (pl t c x - 1)) x = pl t c x - 1 ∧ exc (exc c (pl t c x - 1)) (pl t c x - 1) = c ∧ exc c (pl t c x - 1) ∈ oT t) h1 h4 (by decide +kernel) (by decide +kernel) (by decide +kernel) (by decide +kernel)
set_option maxRecDepth 100000 in
theorem f_nn {t : Nat} (h1 : 1 ≤ t) (h4 : t ≤ 4) : oN t ≤ 24 ∧ 1 ≤ oN t ∧ (∀ i, i < oN t → oC t i ∈ oT t) ∧ ∀ c ∈ oT t, ∃ i, i < oN t ∧ oC t i = c := f_all (P := fun t => oN t ≤ 24 ∧ 1 ≤ oN t ∧ (∀ i, i < oN t → oC t i ∈ oT t) ∧ ∀ c ∈ oT t, ∃ i, i < oN t ∧ oC t i = c) h1 h4 (by decide +kernel) (by decide +kernel) (by decide +kernel) (by decide +kernel)
set_option maxRecDepth 100000 in
theorem f_li {t : Nat} (h1 : 1 ≤ t) (h4 : t ≤ 4) : pre t 256 = oT t := f_all (P := fun t => pre t 256 = oT t) h1 h4 (by decide +kernel) (by decide +kernel) (by decide +kernel) (by decide +kernel)
theorem f_ta : ∀ c, c < 256 → ∀ j, j < 5 → ((nI c >>> (((2 : Int32) * nI j) &&& (31 : Int32))) &&& (3 : Int32)) = nI (tA c j) := by decide +kernel
theorem f_sh : ∀ c, c < 256 → ∀ j, j < 5 → (nI c >>> (((2 : Int32) * nI j) &&& (31 : Int32))) = nI (c / 4 ^ j) := by decide +kernel
theorem f_xc : ∀ c, c < 256 → ∀ j, j < 3 → ((nI c ^^^ ((nI (tA c j) ^^^ nI (tA c (j + 1))) <<< (((2 : Int32) * nI j) &&& (31 : Int32)))) ^^^ ((nI (tA c j) ^^^ nI (tA c (j + 1))) <<< (((2 : Int32) * nI (j + 1)) &&& (31 : Int32)))) = nI (exc c j) ∧ exc c j < 256 := by decide +kernel
theorem f_fi : ∀ j, j < 4 → (nI (fo j) ||| (nI j <<< (((2 : Int32) * nI j) &&& (31 : Int32)))) = nI (fo (j + 1)) := by decide +kernel
theorem f_mk : ∀ m, m < 16 → ∀ x, x < 4 → (nI m ||| ((1 : Int32) <<< (nI x &&& (31 : Int32)))) = nI (m ||| (1 <<< x)) ∧ m ||| (1 <<< x) < 16 := by decide +kernel
theorem f_mb : ∀ m, m < 16 → ∀ x, x < 4 → ((nI m >>> (nI x &&& (31 : Int32))) &&& (1 : Int32)) = nI (m / 2 ^ x % 2) := by decide +kernel
theorem f_pw : ∀ t, t < 5 → (((1 : Int32) <<< (nI t &&& (31 : Int32))) - (1 : Int32)) = nI (2 ^ t - 1) := by decide +kernel
theorem tA_b (c j : Nat) : tA c j < 4 := Nat.mod_lt _ (by omega)
