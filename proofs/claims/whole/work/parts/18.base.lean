/-! BASE: reading behind writes, bits, loops -/
theorem kst_s {I : KI} {a k v : Int} : kst I a k v a k = v := by unfold kst; rw [if_pos ⟨rfl, rfl⟩]
theorem kst_n {I : KI} {a k v a' k' : Int} (h : a' ≠ a ∨ k' ≠ k) : kst I a k v a' k' = I a' k' := by unfold kst; rw [if_neg (by omega)]
theorem kst_a {I : KI} {a k v a' k' : Int} (h : a' ≠ a) : kst I a k v a' k' = I a' k' := kst_n (Or.inl h)
theorem kst_k {I : KI} {a k v a' k' : Int} (h : k' ≠ k) : kst I a k v a' k' = I a' k' := kst_n (Or.inr h)
theorem kbv {x : Int} (h0 : 0 ≤ x) (h1 : x < 2147483648) : (Int32.ofInt x).toBitVec = BitVec.ofNat 32 x.toNat := by
  rw [Int32.toBitVec_ofInt]
  apply BitVec.eq_of_toNat_eq
  rw [BitVec.toNat_ofInt, BitVec.toNat_ofNat]
  omega
theorem kbi {n : Nat} (h : n < 2147483648) : (BitVec.ofNat 32 n).toInt = (n : Int) := by
  rw [BitVec.toInt_eq_toNat_of_lt]
  · rw [BitVec.toNat_ofNat]; omega
  · rw [BitVec.toNat_ofNat]; omega
theorem kand_lt {a b : Nat} (h : a < 2147483648) : a &&& b < 2147483648 := Nat.lt_of_le_of_lt Nat.and_le_left h
theorem kor_lt {a b : Nat} (h : a < 2147483648) (h2 : b < 2147483648) : a ||| b < 2147483648 := Nat.or_lt_two_pow (n := 31) h h2
theorem kxor_lt {a b : Nat} (h : a < 2147483648) (h2 : b < 2147483648) : a ^^^ b < 2147483648 := Nat.xor_lt_two_pow (n := 31) h h2
theorem kiand_n {a b : Nat} (h : a < 2147483648) (h2 : b < 2147483648) : kiand a b = ((a &&& b : Nat) : Int) := by
  unfold kiand
  show ((Int32.ofInt a &&& Int32.ofInt b).toBitVec).toInt = _
  rw [Int32.toBitVec_and, kbv (by omega) (by omega), kbv (by omega) (by omega)]
  rw [show BitVec.ofNat 32 (a : Int).toNat &&& BitVec.ofNat 32 (b : Int).toNat = BitVec.ofNat 32 (a &&& b) from ?_]
  · exact kbi (kand_lt h)
  · apply BitVec.eq_of_toNat_eq
    rw [BitVec.toNat_and, BitVec.toNat_ofNat, BitVec.toNat_ofNat, BitVec.toNat_ofNat]
    rw [Nat.mod_eq_of_lt (by omega), Nat.mod_eq_of_lt (by omega), Nat.mod_eq_of_lt (by have := kand_lt (b := b) h; omega)]
    rfl
theorem kior_n {a b : Nat} (h : a < 2147483648) (h2 : b < 2147483648) : kior a b = ((a ||| b : Nat) : Int) := by
  unfold kior
  show ((Int32.ofInt a ||| Int32.ofInt b).toBitVec).toInt = _
  rw [Int32.toBitVec_or, kbv (by omega) (by omega), kbv (by omega) (by omega)]
  rw [show BitVec.ofNat 32 (a : Int).toNat ||| BitVec.ofNat 32 (b : Int).toNat = BitVec.ofNat 32 (a ||| b) from ?_]
  · exact kbi (kor_lt h h2)
  · apply BitVec.eq_of_toNat_eq
    rw [BitVec.toNat_or, BitVec.toNat_ofNat, BitVec.toNat_ofNat, BitVec.toNat_ofNat]
    rw [Nat.mod_eq_of_lt (by omega), Nat.mod_eq_of_lt (by omega), Nat.mod_eq_of_lt (by have := kor_lt h h2; omega)]
    rfl
theorem kixor_n {a b : Nat} (h : a < 2147483648) (h2 : b < 2147483648) : kixor a b = ((a ^^^ b : Nat) : Int) := by
  unfold kixor
  show ((Int32.ofInt a ^^^ Int32.ofInt b).toBitVec).toInt = _
  rw [Int32.toBitVec_xor, kbv (by omega) (by omega), kbv (by omega) (by omega)]
  rw [show BitVec.ofNat 32 (a : Int).toNat ^^^ BitVec.ofNat 32 (b : Int).toNat = BitVec.ofNat 32 (a ^^^ b) from ?_]
  · exact kbi (kxor_lt h h2)
  · apply BitVec.eq_of_toNat_eq
    rw [BitVec.toNat_xor, BitVec.toNat_ofNat, BitVec.toNat_ofNat, BitVec.toNat_ofNat]
    rw [Nat.mod_eq_of_lt (by omega), Nat.mod_eq_of_lt (by omega), Nat.mod_eq_of_lt (by have := kxor_lt h h2; omega)]
    rfl
theorem k31 {k : Nat} (h : k < 31) : Int32.ofInt (k : Int) &&& 31 = Int32.ofInt (k : Int) := by
  have : ∀ k : Nat, k < 31 → Int32.ofInt (k : Int) &&& 31 = Int32.ofInt (k : Int) := by decide +kernel
  exact this k h
theorem kishl_n {k : Nat} (h : k < 31) : kishl 1 k = ((2 ^ k : Nat) : Int) := by
  have : ∀ k : Nat, k < 31 → kishl 1 k = ((2 ^ k : Nat) : Int) := by decide +kernel
  exact this k h
theorem kishr_n {a k : Nat} (h : a < 2147483648) (hk : k < 31) : kishr a k = ((a >>> k : Nat) : Int) := by
  unfold kishr
  rw [k31 hk]
  show ((Int32.ofInt a >>> Int32.ofInt k).toBitVec).toInt = _
  rw [Int32.toBitVec_shiftRight, kbv (by omega) (by omega), kbv (by omega) (by omega)]
  have e : (BitVec.ofNat 32 (k : Int).toNat).smod 32 = BitVec.ofNat 32 k := by
    have : ∀ k : Nat, k < 31 → (BitVec.ofNat 32 (k : Int).toNat).smod 32 = BitVec.ofNat 32 k := by decide +kernel
    exact this k hk
  rw [e]
  have hm : (BitVec.ofNat 32 (a : Int).toNat).msb = false := by
    rw [BitVec.msb_eq_false_iff_two_mul_lt, BitVec.toNat_ofNat]; omega
  rw [BitVec.sshiftRight', BitVec.sshiftRight_eq_of_msb_false hm, BitVec.toNat_ofNat, Nat.mod_eq_of_lt (by omega)]
  rw [show BitVec.ofNat 32 (a : Int).toNat >>> k = BitVec.ofNat 32 (a >>> k) from ?_]
  · exact kbi (Nat.lt_of_le_of_lt (Nat.shiftRight_le a k) h)
  · apply BitVec.eq_of_toNat_eq
    rw [BitVec.toNat_ushiftRight, BitVec.toNat_ofNat, BitVec.toNat_ofNat, Nat.mod_eq_of_lt (by omega), Nat.mod_eq_of_lt (by have := Nat.shiftRight_le a k; omega)]
    rfl
/-- bit k of a set -/
theorem kbit_n {a k : Nat} (h : a < 2147483648) (hk : k < 31) : kiand (kishr a k) 1 = if a.testBit k then 1 else 0 := by
  rw [kishr_n h hk, show (1 : Int) = ((1 : Nat) : Int) from rfl, kiand_n (Nat.lt_of_le_of_lt (Nat.shiftRight_le a k) h) (by omega)]
  rw [Nat.testBit, Nat.and_comm]
  rw [Nat.one_and_eq_mod_two]
  rcases Nat.mod_two_eq_zero_or_one (a >>> k) with e | e <;> rw [e] <;> rfl
theorem loop_up {n : Nat} {W : Nat → Prop} (hend : W n) (hstep : ∀ k, k < n → W (k + 1) → W k) : ∀ {k}, k ≤ n → W k := by
  intro k hk
  obtain ⟨m, rfl⟩ : ∃ m, n = k + m := ⟨n - k, by omega⟩
  clear hk
  induction m generalizing k with
  | zero => exact hend
  | succ m ih =>
    refine hstep k (by omega) (ih ?_ ?_)
    · rw [show k + 1 + m = k + (m + 1) by omega]; exact hend
    · intro i hi h; exact hstep i (by omega) h
