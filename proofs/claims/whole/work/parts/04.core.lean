/-! THE WORLD, ABSTRACTLY: cells by small numbers (0, 1, 2 ..: from the base on), ints as Int -/
abbrev KV : Type := Nat × Nat × Int
abbrev KI : Type := Int → Int → Int
abbrev KG : Type := Nat × (Int → Nat × Nat) × (Int → Int → Int)
abbrev KL : Type := List (Nat × KV)
abbrev KS : Type := Nat → Nat × (Int → Int)
abbrev KX : Type := Nat × va_G × (Nat → ClassId) × (Nat → Nat)
def w32 (x : Int) : Int := (x + 2147483648) % 4294967296 - 2147483648
def w64 (x : Int) : Int := (x + 9223372036854775808) % 18446744073709551616 - 9223372036854775808
def w8 (x : Int) : Int := (x + 128) % 256 - 128
def w16 (x : Int) : Int := (x + 32768) % 65536 - 32768
def kcv (X : KX) (v : KV) : Value := match v.1 with
  | 0 => .int (Int32.ofInt v.2.2)
  | 1 => .long (Int64.ofInt v.2.2)
  | 2 => .null
  | 3 => .ref (X.2.2.2 v.2.2.toNat)
  | _ => .ref (X.1 + v.2.2.toNat)
/-- the classes whose objects the world holds -/
abbrev kcl : List vw_C := [(RX0, TX0, 3), (RX1, TX1, 11), (RX2, TX2, 6), (RX3, TX3, 8), (RX4, TX4, 8), (RX5, TX5, 5), (RX6, TX6, 7), (RX7, TX7, 2), (RX8, TX8, 13), (RX9, TX9, 47)]
def kNf (ci : Nat) : Nat := match kcl[ci]? with
  | some q => q.2.2
  | none => 0
def kTy (ci : Nat) : Nat → FieldType := match ci with
  | 0 => tyX0 | 1 => tyX1 | 2 => tyX2 | 3 => tyX3 | 4 => tyX4 | 5 => tyX5 | 6 => tyX6 | 7 => tyX7 | 8 => tyX8 | _ => tyX9
def kTag (C : String) : Nat := match (kcl.map (fun q => q.1)).idxOf? C with
  | some i => 10 + i
  | none => 2
/-- what a field or a row's element holds: 0 int, 1 long, 2 boolean, 3 byte, from 4 on a cell of that sort -/
def kTyTag (t : FieldType) : Nat := match t with
  | .int => 0
  | .long => 1
  | .boolean => 2
  | .byte => 3
  | .array .int => 4
  | .array .long => 5
  | .array .byte => 6
  | .array .boolean => 7
  | .array (.object C) => if C = RX3 then 8 else 9
  | .object C => kTag C
  | _ => 0
def kFt (ci k : Nat) : Nat := kTyTag (kTy ci k)
theorem w32_id {x : Int} (h1 : -2147483648 ≤ x) (h2 : x < 2147483648) : w32 x = x := by unfold w32; omega
theorem w32_lo (x : Int) : -2147483648 ≤ w32 x := by unfold w32; omega
theorem w32_hi (x : Int) : w32 x < 2147483648 := by unfold w32; omega
theorem w64_id {x : Int} (h1 : -9223372036854775808 ≤ x) (h2 : x < 9223372036854775808) : w64 x = x := by unfold w64; omega
theorem w64_lo (x : Int) : -9223372036854775808 ≤ w64 x := by unfold w64; omega
theorem w64_hi (x : Int) : w64 x < 9223372036854775808 := by unfold w64; omega
theorem ofInt_bm (x : Int) : Int32.ofInt (x.bmod 4294967296) = Int32.ofInt x := by
  apply Int32.toInt_inj.mp
  rw [Int32.toInt_ofInt, Int32.toInt_ofInt]
  exact Int.bmod_bmod
theorem w32_bm (x : Int) : w32 x = x.bmod 4294967296 := by
  unfold w32
  rw [Int.bmod_def]
  split <;> omega
theorem ofInt_w32 (x : Int) : Int32.ofInt (w32 x) = Int32.ofInt x := by rw [w32_bm, ofInt_bm]
theorem ofInt_bm64 (x : Int) : Int64.ofInt (x.bmod 18446744073709551616) = Int64.ofInt x := by
  apply Int64.toInt_inj.mp
  rw [Int64.toInt_ofInt, Int64.toInt_ofInt]
  exact Int.bmod_bmod
theorem w64_bm (x : Int) : w64 x = x.bmod 18446744073709551616 := by
  unfold w64
  rw [Int.bmod_def]
  split <;> omega
theorem ofInt_w64 (x : Int) : Int64.ofInt (w64 x) = Int64.ofInt x := by rw [w64_bm, ofInt_bm64]
theorem toInt_of32 {x : Int} (h1 : -2147483648 ≤ x) (h2 : x < 2147483648) : (Int32.ofInt x).toInt = x := Int32.toInt_ofInt_of_le (by omega) (by omega)
theorem of32_le {x y : Int} (h1 : -2147483648 ≤ x) (h2 : x < 2147483648) (h3 : -2147483648 ≤ y) (h4 : y < 2147483648) : Int32.ofInt x ≤ Int32.ofInt y ↔ x ≤ y := by
  rw [Int32.le_iff_toInt_le, toInt_of32 h1 h2, toInt_of32 h3 h4]
theorem of32_lt {x y : Int} (h1 : -2147483648 ≤ x) (h2 : x < 2147483648) (h3 : -2147483648 ≤ y) (h4 : y < 2147483648) : Int32.ofInt x < Int32.ofInt y ↔ x < y := by
  rw [Int32.lt_iff_toInt_lt, toInt_of32 h1 h2, toInt_of32 h3 h4]
theorem of32_eq {x y : Int} (h1 : -2147483648 ≤ x) (h2 : x < 2147483648) (h3 : -2147483648 ≤ y) (h4 : y < 2147483648) : Int32.ofInt x = Int32.ofInt y ↔ x = y := by
  constructor
  · intro h
    have := congrArg Int32.toInt h
    rwa [toInt_of32 h1 h2, toInt_of32 h3 h4] at this
  · intro h; rw [h]
theorem of32_nat {x : Int} (h1 : 0 ≤ x) (h2 : x < 2147483648) : (Int32.ofInt x).toNatClampNeg = x.toNat := by
  show (Int32.ofInt x).toInt.toNat = _
  rw [toInt_of32 (by omega) h2]
theorem of32_in {x : Int} {n : Nat} (h1 : 0 ≤ x) (h2 : x < 2147483648) (h3 : x < n) : vp_in (Int32.ofInt x) n := by
  rw [vp_in_iff, toInt_of32 (by omega) h2]; omega
theorem toInt64_of {x : Int} (h1 : -9223372036854775808 ≤ x) (h2 : x < 9223372036854775808) : (Int64.ofInt x).toInt = x := Int64.toInt_ofInt_of_le (by omega) (by omega)
theorem of64_eq {x y : Int} (h1 : -9223372036854775808 ≤ x) (h2 : x < 9223372036854775808) (h3 : -9223372036854775808 ≤ y) (h4 : y < 9223372036854775808) : Int64.ofInt x = Int64.ofInt y ↔ x = y := by
  constructor
  · intro h
    have := congrArg Int64.toInt h
    rwa [toInt64_of h1 h2, toInt64_of h3 h4] at this
  · intro h; rw [h]
theorem of64_lt {x y : Int} (h1 : -9223372036854775808 ≤ x) (h2 : x < 9223372036854775808) (h3 : -9223372036854775808 ≤ y) (h4 : y < 9223372036854775808) : Int64.ofInt x < Int64.ofInt y ↔ x < y := by
  rw [Int64.lt_iff_toInt_lt, toInt64_of h1 h2, toInt64_of h3 h4]
theorem i32_lo (x : Int32) : -2147483648 ≤ x.toInt := x.le_toInt
theorem i32_hi (x : Int32) : x.toInt < 2147483648 := x.toInt_lt
theorem i64_lo (x : Int64) : -9223372036854775808 ≤ x.toInt := x.le_toInt
theorem i64_hi (x : Int64) : x.toInt < 9223372036854775808 := x.toInt_lt
