/-! small facts for the walks -/
theorem gadd {x y : Int32} {a b : Nat} (h1 : x = nI a) (h2 : y = nI b) : x + y = nI (a + b) := by rw [h1, h2, nI_add]
theorem gmul {x y : Int32} {a b : Nat} (h1 : x = nI a) (h2 : y = nI b) : x * y = nI (a * b) := by rw [h1, h2, pk_mul]
theorem gsub {x y : Int32} {a b : Nat} (h1 : x = nI a) (h2 : y = nI b) (h : b ≤ a) : x - y = nI (a - b) := by rw [h1, h2, pk_sub h]
theorem gpred {x : Int32} {a : Nat} (h1 : x = nI (a + 1)) : x + (-1) = nI a := by rw [h1, pk_m1]
theorem gdec1 {x : Int32} {a : Nat} (h1 : x = nI a) (h : 1 ≤ a) : x + (-1) = nI (a - 1) := gpred (by rw [h1, Nat.sub_add_cancel h])
theorem gvin {x : Int32} {a n : Nat} (h1 : x = nI a) (h : a < n) (hn : n < 2 ^ 31) : vp_in x n := by rw [h1]; exact vp_in_nI h hn
theorem gclp {x : Int32} {a : Nat} (h1 : x = nI a) (h : a < 2 ^ 31) : x.toNatClampNeg = a := by rw [h1]; exact nI_clamp h
theorem gle {x y : Int32} {a b : Nat} (h1 : x = nI a) (h2 : y = nI b) (ha : a < 2 ^ 31) (hb : b < 2 ^ 31) : x ≤ y ↔ a ≤ b := by rw [h1, h2]; exact nI_leI ha hb
theorem glt {x y : Int32} {a b : Nat} (h1 : x = nI a) (h2 : y = nI b) (ha : a < 2 ^ 31) (hb : b < 2 ^ 31) : x < y ↔ a < b := by rw [h1, h2]; exact nI_ltI ha hb
theorem geq {x y : Int32} {a b : Nat} (h1 : x = nI a) (h2 : y = nI b) (ha : a < 2 ^ 31) (hb : b < 2 ^ 31) : x = y ↔ a = b := by rw [h1, h2]; exact nI_eq ha hb
theorem gk (n : Nat) : Int32.ofNat n = nI n := rfl
theorem gvl (k n : Nat) (h : k < n) (hn : n < 2 ^ 31) : vp_in (Int32.ofNat k) n := vp_in_nI h hn
theorem gsub1 {x : Int32} {a : Nat} (h1 : x = nI (a + 1)) : x - 1 = nI a := gsub h1 (gk 1) (Nat.le_add_left 1 a)
theorem gacs (c : Int32) : c + 1 - 1 = c := by rw [Int32.add_sub_cancel]
/-- a boolean as the machine has it -/
def bI (b : Bool) : Int32 := if b = true then 1 else 0
theorem bI_t {b : Bool} (h : ¬ bI b = 0) : b = true := by
  cases b with
  | true => rfl
  | false => exact absurd rfl h
theorem bI_f {b : Bool} (h : bI b = 0) : b = false := by
  cases b with
  | true => exact absurd h (by decide)
  | false => rfl
