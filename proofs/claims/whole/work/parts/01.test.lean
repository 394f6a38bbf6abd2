theorem tt_a (a b : Int) (h : a < b) : a + 1 ≤ b := by omega
theorem tt_b (f : Nat → Nat) (h : ∀ x, f x = x) : f (f 3) = 3 := by grind
def tt_f : Nat → Nat → Nat
  | 0, k => k
  | n+1, k => tt_f n (k+1)
theorem tt_c : tt_f 1000 5 = 1005 := by decide +kernel
