/-! THE CODE AS DATA: an entry: place, operation, five numbers, a word's place -/
abbrev KE : Type := Nat × Nat × Nat × Nat × Nat × Nat × Int × Nat
abbrev KK : Type := Nat → Nat → KL → List KV → KG → KI → Prop
abbrev KF : Type := Nat → Nat → Nat → Nat → Int → KS → Bool → Nat → KK → (Nat → KK) → KQ → KK
abbrev KH : Type := Nat → Nat → Nat → Nat → Nat → Int → Nat → Nat → Nat → Instr → Nat → Bool
def KOk (f : KF) (g : KH) : Prop := ∀ (xs : KS) (lay : Bool) (dd kc ks j pc np a b c d : Nat) (z : Int) (w : Nat) (i : Instr) (len : Nat) (nx : KK) (jp : Nat → KK) (Q : KQ) (L : KL) (st : List KV) (G : KG) (I : KI),
  decode (kMb j) pc = .ok (i, len) → g j a b c d z w pc np i len = true → f a b c d z xs lay dd nx jp Q kc ks L st G I →
  (∀ kc ks L st G I, nx kc ks L st G I → kWP xs lay dd kc ks j np L st G I Q) → (∀ t kc ks L st G I, jp t kc ks L st G I → kWP xs lay dd kc ks j t L st G I Q) → kWP xs lay dd kc ks j pc L st G I Q
theorem kbe {a b : Nat} (h : Nat.beq a b = true) : a = b := Nat.eq_of_beq_eq_true h
def kTsw (n : Nat) : List Nat := match n with
  | 0 => [48, 61, 74, 86]
  | 1 => [60, 65, 70, 75, 84, 93, 110]
  | 2 => [72, 93, 109]
  | 3 => [36, 41, 46, 54, 62]
  | 4 => [64, 69, 74, 79, 86, 94, 107]
  | 5 => [64, 89, 101]
  | 6 => [60, 70, 80, 90]
  | 7 => [36, 41, 46, 51, 56]
  | 8 => [184, 217, 230, 273, 296, 329, 372, 405, 428, 451, 474, 497, 530, 563, 596, 629, 652, 685, 728, 761, 774, 827, 880, 893, 906, 929, 972, 995, 1028, 1071, 1144, 1178, 1241, 1274]
  | _ => []
def kLsw (n : Nat) : List (Int × Nat) := match n with
  | 0 => [(1, 116), (2, 123), (10, 149), (11, 164), (20, 171), (30, 183), (40, 194), (41, 206), (50, 218), (60, 230), (70, 253), (80, 265), (81, 288)]
  | 1 => [(98, 54), (109, 60), (110, 52), (115, 56), (122, 58)]
  | _ => []
theorem kIsN_in {z : Nat} {a : String} {i : Nat} {y : MethodName} {h : String} (hz : decide (kWd z = some (.methodLinkNest a i y h)) = true) : Cond.methodLinkNest a i y h ∈ kNest := by
  have h1 := kWd_mem (of_decide_eq_true hz)
  unfold lw_tbl at h1
  rcases List.mem_append.mp h1 with h2 | h2
  · unfold k2_sels at h2
    obtain ⟨q, _, hq⟩ := List.mem_map.mp h2
    cases hq
  · exact List.mem_filter.mpr ⟨h2, rfl⟩
def s_ldi : KF := fun a b c d z xs lay dd nx jp Q kc ks L st G I =>
  match klk L a with
  | some (0, n, x) => nx kc ks L ((0, n, x) :: st) G I
  | _ => False
def c_ldi : KH := fun j a b c d z w pc np i len =>
  match i with
  | .iload_n k => Nat.beq k.val a && Nat.beq len 1 && Nat.beq np (pc + 1)
  | .iload k => Nat.beq k a && Nat.beq len 2 && Nat.beq np (pc + 2)
  | _ => false
theorem ok_ldi : KOk s_ldi c_ldi := by
  intro xs lay dd kc ks j pc np a b c d z w i len nx jp Q L st G I hd hc hf hn hj
  unfold c_ldi at hc
  unfold s_ldi at hf
  split at hc
  · simp only [Bool.and_eq_true] at hc
    obtain ⟨⟨h1, h2⟩, h3⟩ := hc
    have h1 := kbe h1; have h2 := kbe h2; have h3 := kbe h3
    subst h2; subst h3
    split at hf
    · rename_i hk
      exact kr_iload_n hd h1 hk (hn _ _ _ _ _ _ hf)
    · exact hf.elim
  · simp only [Bool.and_eq_true] at hc
    obtain ⟨⟨h1, h2⟩, h3⟩ := hc
    have h1 := kbe h1; have h2 := kbe h2; have h3 := kbe h3
    subst h1; subst h2; subst h3
    split at hf
    · rename_i hk
      exact kr_iload hd hk (hn _ _ _ _ _ _ hf)
    · exact hf.elim
  · cases hc
def s_lda : KF := fun a b c d z xs lay dd nx jp Q kc ks L st G I =>
  match klk L a with
  | some (t, n, x) => bif Nat.ble 2 t then nx kc ks L ((t, n, x) :: st) G I else False
  | none => False
def c_lda : KH := fun j a b c d z w pc np i len =>
  match i with
  | .aload_n k => Nat.beq k.val a && Nat.beq len 1 && Nat.beq np (pc + 1)
  | .aload k => Nat.beq k a && Nat.beq len 2 && Nat.beq np (pc + 2)
  | _ => false
theorem ok_lda : KOk s_lda c_lda := by
  intro xs lay dd kc ks j pc np a b c d z w i len nx jp Q L st G I hd hc hf hn hj
  unfold c_lda at hc
  unfold s_lda at hf
  split at hc
  · simp only [Bool.and_eq_true] at hc
    obtain ⟨⟨h1, h2⟩, h3⟩ := hc
    have h1 := kbe h1; have h2 := kbe h2; have h3 := kbe h3
    subst h2; subst h3
    split at hf
    · rename_i t n x hk
      cases hb : Nat.ble 2 t with
      | true =>
        rw [hb] at hf
        exact kr_aload_n hd h1 hk (Nat.le_of_ble_eq_true hb) (hn _ _ _ _ _ _ hf)
      | false => rw [hb] at hf; exact hf.elim
    · exact hf.elim
  · simp only [Bool.and_eq_true] at hc
    obtain ⟨⟨h1, h2⟩, h3⟩ := hc
    have h1 := kbe h1; have h2 := kbe h2; have h3 := kbe h3
    subst h1; subst h2; subst h3
    split at hf
    · rename_i t n x hk
      cases hb : Nat.ble 2 t with
      | true =>
        rw [hb] at hf
        exact kr_aload hd hk (Nat.le_of_ble_eq_true hb) (hn _ _ _ _ _ _ hf)
      | false => rw [hb] at hf; exact hf.elim
    · exact hf.elim
  · cases hc
def s_ldl : KF := fun a b c d z xs lay dd nx jp Q kc ks L st G I =>
  match klk L a with
  | some (1, n, x) => nx kc ks L ((1, n, x) :: st) G I
  | _ => False
def c_ldl : KH := fun j a b c d z w pc np i len =>
  match i with
  | .lload_n k => Nat.beq k.val a && Nat.beq len 1 && Nat.beq np (pc + 1)
  | .lload k => Nat.beq k a && Nat.beq len 2 && Nat.beq np (pc + 2)
  | _ => false
theorem ok_ldl : KOk s_ldl c_ldl := by
  intro xs lay dd kc ks j pc np a b c d z w i len nx jp Q L st G I hd hc hf hn hj
  unfold c_ldl at hc
  unfold s_ldl at hf
  split at hc
  · simp only [Bool.and_eq_true] at hc
    obtain ⟨⟨h1, h2⟩, h3⟩ := hc
    have h1 := kbe h1; have h2 := kbe h2; have h3 := kbe h3
    subst h2; subst h3
    split at hf
    · rename_i hk
      exact kr_lload_n hd h1 hk (hn _ _ _ _ _ _ hf)
    · exact hf.elim
  · simp only [Bool.and_eq_true] at hc
    obtain ⟨⟨h1, h2⟩, h3⟩ := hc
    have h1 := kbe h1; have h2 := kbe h2; have h3 := kbe h3
    subst h1; subst h2; subst h3
    split at hf
    · rename_i hk
      exact kr_lload hd hk (hn _ _ _ _ _ _ hf)
    · exact hf.elim
  · cases hc
def s_sti : KF := fun a b c d z xs lay dd nx jp Q kc ks L st G I =>
  match st with
  | (0, n, x) :: st => nx kc ks ((a, 0, n, x) :: kdel a L) st G I
  | _ => False
def c_sti : KH := fun j a b c d z w pc np i len =>
  match i with
  | .istore_n k => Nat.beq k.val a && Nat.blt a (kMl j) && Nat.beq len 1 && Nat.beq np (pc + 1)
  | .istore k => Nat.beq k a && Nat.blt a (kMl j) && Nat.beq len 2 && Nat.beq np (pc + 2)
  | _ => false
theorem ok_sti : KOk s_sti c_sti := by
  intro xs lay dd kc ks j pc np a b c d z w i len nx jp Q L st G I hd hc hf hn hj
  unfold c_sti at hc
  unfold s_sti at hf
  split at hc
  · simp only [Bool.and_eq_true] at hc
    obtain ⟨⟨⟨h1, h4⟩, h2⟩, h3⟩ := hc
    have h1 := kbe h1; have h2 := kbe h2; have h3 := kbe h3
    subst h2; subst h3
    have h4 := Nat.le_of_ble_eq_true h4
    split at hf
    · exact kr_istore_n hd h1 h4 (hn _ _ _ _ _ _ hf)
    · exact hf.elim
  · simp only [Bool.and_eq_true] at hc
    obtain ⟨⟨⟨h1, h4⟩, h2⟩, h3⟩ := hc
    have h1 := kbe h1; have h2 := kbe h2; have h3 := kbe h3
    subst h1; subst h2; subst h3
    have h4 := Nat.le_of_ble_eq_true h4
    split at hf
    · exact kr_istore hd h4 (hn _ _ _ _ _ _ hf)
    · exact hf.elim
  · cases hc
def s_sta : KF := fun a b c d z xs lay dd nx jp Q kc ks L st G I =>
  match st with
  | (t, n, x) :: st => bif Nat.ble 2 t then nx kc ks ((a, t, n, x) :: kdel a L) st G I else False
  | [] => False
def c_sta : KH := fun j a b c d z w pc np i len =>
  match i with
  | .astore_n k => Nat.beq k.val a && Nat.blt a (kMl j) && Nat.beq len 1 && Nat.beq np (pc + 1)
  | .astore k => Nat.beq k a && Nat.blt a (kMl j) && Nat.beq len 2 && Nat.beq np (pc + 2)
  | _ => false
theorem ok_sta : KOk s_sta c_sta := by
  intro xs lay dd kc ks j pc np a b c d z w i len nx jp Q L st G I hd hc hf hn hj
  unfold c_sta at hc
  unfold s_sta at hf
  split at hc
  · simp only [Bool.and_eq_true] at hc
    obtain ⟨⟨⟨h1, h4⟩, h2⟩, h3⟩ := hc
    have h1 := kbe h1; have h2 := kbe h2; have h3 := kbe h3
    subst h2; subst h3
    have h4 := Nat.le_of_ble_eq_true h4
    split at hf
    · rename_i t n x st
      cases hb : Nat.ble 2 t with
      | true =>
        rw [hb] at hf
        exact kr_astore_n hd h1 h4 (Nat.le_of_ble_eq_true hb) (hn _ _ _ _ _ _ hf)
      | false => rw [hb] at hf; exact hf.elim
    · exact hf.elim
  · simp only [Bool.and_eq_true] at hc
    obtain ⟨⟨⟨h1, h4⟩, h2⟩, h3⟩ := hc
    have h1 := kbe h1; have h2 := kbe h2; have h3 := kbe h3
    subst h1; subst h2; subst h3
    have h4 := Nat.le_of_ble_eq_true h4
    split at hf
    · rename_i t n x st
      cases hb : Nat.ble 2 t with
      | true =>
        rw [hb] at hf
        exact kr_astore hd h4 (Nat.le_of_ble_eq_true hb) (hn _ _ _ _ _ _ hf)
      | false => rw [hb] at hf; exact hf.elim
    · exact hf.elim
  · cases hc
def s_stl : KF := fun a b c d z xs lay dd nx jp Q kc ks L st G I =>
  match st with
  | (1, n, x) :: st => nx kc ks ((a, 1, n, x) :: kdel2 a L) st G I
  | _ => False
def c_stl : KH := fun j a b c d z w pc np i len =>
  match i with
  | .lstore_n k => Nat.beq k.val a && Nat.blt (a + 1) (kMl j) && Nat.beq len 1 && Nat.beq np (pc + 1)
  | .lstore k => Nat.beq k a && Nat.blt (a + 1) (kMl j) && Nat.beq len 2 && Nat.beq np (pc + 2)
  | _ => false
theorem ok_stl : KOk s_stl c_stl := by
  intro xs lay dd kc ks j pc np a b c d z w i len nx jp Q L st G I hd hc hf hn hj
  unfold c_stl at hc
  unfold s_stl at hf
  split at hc
  · simp only [Bool.and_eq_true] at hc
    obtain ⟨⟨⟨h1, h4⟩, h2⟩, h3⟩ := hc
    have h1 := kbe h1; have h2 := kbe h2; have h3 := kbe h3
    subst h2; subst h3
    have h4 := Nat.le_of_ble_eq_true h4
    split at hf
    · exact kr_lstore_n hd h1 h4 (hn _ _ _ _ _ _ hf)
    · exact hf.elim
  · simp only [Bool.and_eq_true] at hc
    obtain ⟨⟨⟨h1, h4⟩, h2⟩, h3⟩ := hc
    have h1 := kbe h1; have h2 := kbe h2; have h3 := kbe h3
    subst h1; subst h2; subst h3
    have h4 := Nat.le_of_ble_eq_true h4
    split at hf
    · exact kr_lstore hd h4 (hn _ _ _ _ _ _ hf)
    · exact hf.elim
  · cases hc
def s_pushi : KF := fun a b c d z xs lay dd nx jp Q kc ks L st G I =>
  nx kc ks L ((0, 0, z) :: st) G I
def c_pushi : KH := fun j a b c d z w pc np i len =>
  match i with
  | .iconst n => decide (Int32.ofInt n = Int32.ofInt z) && (decide (-2147483648 ≤ z) && decide (z < 2147483648)) && Nat.beq len 1 && Nat.beq np (pc + 1)
  | .bipush n => decide ((Int8.ofInt n).toInt32 = Int32.ofInt z) && (decide (-2147483648 ≤ z) && decide (z < 2147483648)) && Nat.beq len 2 && Nat.beq np (pc + 2)
  | .sipush n => decide ((Int16.ofInt n).toInt32 = Int32.ofInt z) && (decide (-2147483648 ≤ z) && decide (z < 2147483648)) && Nat.beq len 3 && Nat.beq np (pc + 3)
  | .ldc n => kIs w (Cond.constant (kMy j).cls n (Int32.ofInt z)) && (decide (-2147483648 ≤ z) && decide (z < 2147483648)) && Nat.beq len 2 && Nat.beq np (pc + 2)
  | .ldc_w n => kIs w (Cond.constant (kMy j).cls n (Int32.ofInt z)) && (decide (-2147483648 ≤ z) && decide (z < 2147483648)) && Nat.beq len 3 && Nat.beq np (pc + 3)
  | _ => false
theorem ok_pushi : KOk s_pushi c_pushi := by
  intro xs lay dd kc ks j pc np a b c d z w i len nx jp Q L st G I hd hc hf hn hj
  unfold c_pushi at hc
  unfold s_pushi at hf
  split at hc
  · simp only [Bool.and_eq_true] at hc
    obtain ⟨⟨⟨h1, h4⟩, h2⟩, h3⟩ := hc
    have h2 := kbe h2; have h3 := kbe h3
    subst h2; subst h3
    exact kr_iconst hd ⟨of_decide_eq_true h4.1, of_decide_eq_true h4.2⟩ (of_decide_eq_true h1) (hn _ _ _ _ _ _ hf)
  · simp only [Bool.and_eq_true] at hc
    obtain ⟨⟨⟨h1, h4⟩, h2⟩, h3⟩ := hc
    have h2 := kbe h2; have h3 := kbe h3
    subst h2; subst h3
    exact kr_bipush hd ⟨of_decide_eq_true h4.1, of_decide_eq_true h4.2⟩ (of_decide_eq_true h1) (hn _ _ _ _ _ _ hf)
  · simp only [Bool.and_eq_true] at hc
    obtain ⟨⟨⟨h1, h4⟩, h2⟩, h3⟩ := hc
    have h2 := kbe h2; have h3 := kbe h3
    subst h2; subst h3
    exact kr_sipush hd ⟨of_decide_eq_true h4.1, of_decide_eq_true h4.2⟩ (of_decide_eq_true h1) (hn _ _ _ _ _ _ hf)
  · simp only [Bool.and_eq_true] at hc
    obtain ⟨⟨⟨h1, h4⟩, h2⟩, h3⟩ := hc
    have h2 := kbe h2; have h3 := kbe h3
    subst h2; subst h3
    exact kr_ldc hd (kIs_in h1) ⟨of_decide_eq_true h4.1, of_decide_eq_true h4.2⟩ rfl (hn _ _ _ _ _ _ hf)
  · simp only [Bool.and_eq_true] at hc
    obtain ⟨⟨⟨h1, h4⟩, h2⟩, h3⟩ := hc
    have h2 := kbe h2; have h3 := kbe h3
    subst h2; subst h3
    exact kr_ldcw hd (kIs_in h1) ⟨of_decide_eq_true h4.1, of_decide_eq_true h4.2⟩ rfl (hn _ _ _ _ _ _ hf)
  · cases hc
def s_pushl : KF := fun a b c d z xs lay dd nx jp Q kc ks L st G I =>
  nx kc ks L ((1, 0, z) :: st) G I
def c_pushl : KH := fun j a b c d z w pc np i len =>
  match i with
  | .lconst n => decide (Int64.ofNat (n : Nat) = Int64.ofInt z) && (decide (-9223372036854775808 ≤ z) && decide (z < 9223372036854775808)) && Nat.beq len 1 && Nat.beq np (pc + 1)
  | .ldc2_w n => kIs w (Cond.constantLong (kMy j).cls n (Int64.ofInt z)) && (decide (-9223372036854775808 ≤ z) && decide (z < 9223372036854775808)) && Nat.beq len 3 && Nat.beq np (pc + 3)
  | _ => false
theorem ok_pushl : KOk s_pushl c_pushl := by
  intro xs lay dd kc ks j pc np a b c d z w i len nx jp Q L st G I hd hc hf hn hj
  unfold c_pushl at hc
  unfold s_pushl at hf
  split at hc
  · simp only [Bool.and_eq_true] at hc
    obtain ⟨⟨⟨h1, h4⟩, h2⟩, h3⟩ := hc
    have h2 := kbe h2; have h3 := kbe h3
    subst h2; subst h3
    exact kr_lconst hd ⟨of_decide_eq_true h4.1, of_decide_eq_true h4.2⟩ (of_decide_eq_true h1) (hn _ _ _ _ _ _ hf)
  · simp only [Bool.and_eq_true] at hc
    obtain ⟨⟨⟨h1, h4⟩, h2⟩, h3⟩ := hc
    have h2 := kbe h2; have h3 := kbe h3
    subst h2; subst h3
    exact kr_ldc2 hd (kIs_in h1) ⟨of_decide_eq_true h4.1, of_decide_eq_true h4.2⟩ rfl (hn _ _ _ _ _ _ hf)
  · cases hc
def s_null : KF := fun a b c d z xs lay dd nx jp Q kc ks L st G I =>
  nx kc ks L ((2, 0, 0) :: st) G I
def c_null : KH := fun j a b c d z w pc np i len =>
  match i with
  | .aconst_null => Nat.beq len 1 && Nat.beq np (pc + 1)
  | _ => false
theorem ok_null : KOk s_null c_null := by
  intro xs lay dd kc ks j pc np a b c d z w i len nx jp Q L st G I hd hc hf hn hj
  unfold c_null at hc
  unfold s_null at hf
  split at hc
  · simp only [Bool.and_eq_true] at hc
    obtain ⟨h2, h3⟩ := hc
    have h2 := kbe h2; have h3 := kbe h3
    subst h2; subst h3
    exact kr_null hd (hn _ _ _ _ _ _ hf)
  · cases hc
def s_iinc : KF := fun a b c d z xs lay dd nx jp Q kc ks L st G I =>
  match klk L a with
  | some (0, n, x) => nx kc ks ((a, 0, 0, w32 (x + z)) :: kdel a L) st G I
  | _ => False
def c_iinc : KH := fun j a b c d z w pc np i len =>
  match i with
  | .iinc k n => Nat.beq k a && decide (n = z) && Nat.blt a (kMl j) && Nat.beq len 3 && Nat.beq np (pc + 3)
  | _ => false
theorem ok_iinc : KOk s_iinc c_iinc := by
  intro xs lay dd kc ks j pc np a b c d z w i len nx jp Q L st G I hd hc hf hn hj
  unfold c_iinc at hc
  unfold s_iinc at hf
  split at hc
  · simp only [Bool.and_eq_true] at hc
    obtain ⟨⟨⟨⟨h1, h5⟩, h4⟩, h2⟩, h3⟩ := hc
    have h1 := kbe h1; have h2 := kbe h2; have h3 := kbe h3; have h5 := of_decide_eq_true h5
    subst h1; subst h2; subst h3; subst h5
    split at hf
    · rename_i hk
      exact kr_iinc hd hk (Nat.le_of_ble_eq_true h4) (hn _ _ _ _ _ _ hf)
    · exact hf.elim
  · cases hc
def s_iadd : KF := fun a b c d z xs lay dd nx jp Q kc ks L st G I =>
  match st with
  | (0, _, y) :: (0, _, x) :: st => nx kc ks L ((0, 0, w32 (x + y)) :: st) G I
  | _ => False
def c_iadd : KH := fun j a b c d z w pc np i len =>
  match i with
  | .iadd => Nat.beq len 1 && Nat.beq np (pc + 1)
  | _ => false
theorem ok_iadd : KOk s_iadd c_iadd := by
  intro xs lay dd kc ks j pc np a b c d z w i len nx jp Q L st G I hd hc hf hn hj
  unfold c_iadd at hc
  unfold s_iadd at hf
  split at hc
  · simp only [Bool.and_eq_true] at hc
    obtain ⟨h2, h3⟩ := hc
    have h2 := kbe h2; have h3 := kbe h3
    subst h2; subst h3
    split at hf
    · exact kr_iadd hd (hn _ _ _ _ _ _ hf)
    · exact hf.elim
  · cases hc
def s_isub : KF := fun a b c d z xs lay dd nx jp Q kc ks L st G I =>
  match st with
  | (0, _, y) :: (0, _, x) :: st => nx kc ks L ((0, 0, w32 (x - y)) :: st) G I
  | _ => False
def c_isub : KH := fun j a b c d z w pc np i len =>
  match i with
  | .isub => Nat.beq len 1 && Nat.beq np (pc + 1)
  | _ => false
theorem ok_isub : KOk s_isub c_isub := by
  intro xs lay dd kc ks j pc np a b c d z w i len nx jp Q L st G I hd hc hf hn hj
  unfold c_isub at hc
  unfold s_isub at hf
  split at hc
  · simp only [Bool.and_eq_true] at hc
    obtain ⟨h2, h3⟩ := hc
    have h2 := kbe h2; have h3 := kbe h3
    subst h2; subst h3
    split at hf
    · exact kr_isub hd (hn _ _ _ _ _ _ hf)
    · exact hf.elim
  · cases hc
def s_imul : KF := fun a b c d z xs lay dd nx jp Q kc ks L st G I =>
  match st with
  | (0, _, y) :: (0, _, x) :: st => nx kc ks L ((0, 0, w32 (x * y)) :: st) G I
  | _ => False
def c_imul : KH := fun j a b c d z w pc np i len =>
  match i with
  | .imul => Nat.beq len 1 && Nat.beq np (pc + 1)
  | _ => false
theorem ok_imul : KOk s_imul c_imul := by
  intro xs lay dd kc ks j pc np a b c d z w i len nx jp Q L st G I hd hc hf hn hj
  unfold c_imul at hc
  unfold s_imul at hf
  split at hc
  · simp only [Bool.and_eq_true] at hc
    obtain ⟨h2, h3⟩ := hc
    have h2 := kbe h2; have h3 := kbe h3
    subst h2; subst h3
    split at hf
    · exact kr_imul hd (hn _ _ _ _ _ _ hf)
    · exact hf.elim
  · cases hc
def s_idiv : KF := fun a b c d z xs lay dd nx jp Q kc ks L st G I =>
  match st with
  | (0, _, y) :: (0, _, x) :: st => (y ≠ 0) ∧ nx kc ks L ((0, 0, kidiv x y) :: st) G I
  | _ => False
def c_idiv : KH := fun j a b c d z w pc np i len =>
  match i with
  | .idiv => Nat.beq len 1 && Nat.beq np (pc + 1)
  | _ => false
theorem ok_idiv : KOk s_idiv c_idiv := by
  intro xs lay dd kc ks j pc np a b c d z w i len nx jp Q L st G I hd hc hf hn hj
  unfold c_idiv at hc
  unfold s_idiv at hf
  split at hc
  · simp only [Bool.and_eq_true] at hc
    obtain ⟨h2, h3⟩ := hc
    have h2 := kbe h2; have h3 := kbe h3
    subst h2; subst h3
    split at hf
    · exact kr_idiv hd hf.1 (hn _ _ _ _ _ _ hf.2)
    · exact hf.elim
  · cases hc
def s_irem : KF := fun a b c d z xs lay dd nx jp Q kc ks L st G I =>
  match st with
  | (0, _, y) :: (0, _, x) :: st => (y ≠ 0) ∧ nx kc ks L ((0, 0, kirem x y) :: st) G I
  | _ => False
def c_irem : KH := fun j a b c d z w pc np i len =>
  match i with
  | .irem => Nat.beq len 1 && Nat.beq np (pc + 1)
  | _ => false
theorem ok_irem : KOk s_irem c_irem := by
  intro xs lay dd kc ks j pc np a b c d z w i len nx jp Q L st G I hd hc hf hn hj
  unfold c_irem at hc
  unfold s_irem at hf
  split at hc
  · simp only [Bool.and_eq_true] at hc
    obtain ⟨h2, h3⟩ := hc
    have h2 := kbe h2; have h3 := kbe h3
    subst h2; subst h3
    split at hf
    · exact kr_irem hd hf.1 (hn _ _ _ _ _ _ hf.2)
    · exact hf.elim
  · cases hc
def s_iand : KF := fun a b c d z xs lay dd nx jp Q kc ks L st G I =>
  match st with
  | (0, _, y) :: (0, _, x) :: st => nx kc ks L ((0, 0, kiand x y) :: st) G I
  | _ => False
def c_iand : KH := fun j a b c d z w pc np i len =>
  match i with
  | .iand => Nat.beq len 1 && Nat.beq np (pc + 1)
  | _ => false
theorem ok_iand : KOk s_iand c_iand := by
  intro xs lay dd kc ks j pc np a b c d z w i len nx jp Q L st G I hd hc hf hn hj
  unfold c_iand at hc
  unfold s_iand at hf
  split at hc
  · simp only [Bool.and_eq_true] at hc
    obtain ⟨h2, h3⟩ := hc
    have h2 := kbe h2; have h3 := kbe h3
    subst h2; subst h3
    split at hf
    · exact kr_iand hd (hn _ _ _ _ _ _ hf)
    · exact hf.elim
  · cases hc
def s_ior : KF := fun a b c d z xs lay dd nx jp Q kc ks L st G I =>
  match st with
  | (0, _, y) :: (0, _, x) :: st => nx kc ks L ((0, 0, kior x y) :: st) G I
  | _ => False
def c_ior : KH := fun j a b c d z w pc np i len =>
  match i with
  | .ior => Nat.beq len 1 && Nat.beq np (pc + 1)
  | _ => false
theorem ok_ior : KOk s_ior c_ior := by
  intro xs lay dd kc ks j pc np a b c d z w i len nx jp Q L st G I hd hc hf hn hj
  unfold c_ior at hc
  unfold s_ior at hf
  split at hc
  · simp only [Bool.and_eq_true] at hc
    obtain ⟨h2, h3⟩ := hc
    have h2 := kbe h2; have h3 := kbe h3
    subst h2; subst h3
    split at hf
    · exact kr_ior hd (hn _ _ _ _ _ _ hf)
    · exact hf.elim
  · cases hc
def s_ixor : KF := fun a b c d z xs lay dd nx jp Q kc ks L st G I =>
  match st with
  | (0, _, y) :: (0, _, x) :: st => nx kc ks L ((0, 0, kixor x y) :: st) G I
  | _ => False
def c_ixor : KH := fun j a b c d z w pc np i len =>
  match i with
  | .ixor => Nat.beq len 1 && Nat.beq np (pc + 1)
  | _ => false
theorem ok_ixor : KOk s_ixor c_ixor := by
  intro xs lay dd kc ks j pc np a b c d z w i len nx jp Q L st G I hd hc hf hn hj
  unfold c_ixor at hc
  unfold s_ixor at hf
  split at hc
  · simp only [Bool.and_eq_true] at hc
    obtain ⟨h2, h3⟩ := hc
    have h2 := kbe h2; have h3 := kbe h3
    subst h2; subst h3
    split at hf
    · exact kr_ixor hd (hn _ _ _ _ _ _ hf)
    · exact hf.elim
  · cases hc
def s_ishl : KF := fun a b c d z xs lay dd nx jp Q kc ks L st G I =>
  match st with
  | (0, _, y) :: (0, _, x) :: st => nx kc ks L ((0, 0, kishl x y) :: st) G I
  | _ => False
def c_ishl : KH := fun j a b c d z w pc np i len =>
  match i with
  | .ishl => Nat.beq len 1 && Nat.beq np (pc + 1)
  | _ => false
theorem ok_ishl : KOk s_ishl c_ishl := by
  intro xs lay dd kc ks j pc np a b c d z w i len nx jp Q L st G I hd hc hf hn hj
  unfold c_ishl at hc
  unfold s_ishl at hf
  split at hc
  · simp only [Bool.and_eq_true] at hc
    obtain ⟨h2, h3⟩ := hc
    have h2 := kbe h2; have h3 := kbe h3
    subst h2; subst h3
    split at hf
    · exact kr_ishl hd (hn _ _ _ _ _ _ hf)
    · exact hf.elim
  · cases hc
def s_ishr : KF := fun a b c d z xs lay dd nx jp Q kc ks L st G I =>
  match st with
  | (0, _, y) :: (0, _, x) :: st => nx kc ks L ((0, 0, kishr x y) :: st) G I
  | _ => False
def c_ishr : KH := fun j a b c d z w pc np i len =>
  match i with
  | .ishr => Nat.beq len 1 && Nat.beq np (pc + 1)
  | _ => false
theorem ok_ishr : KOk s_ishr c_ishr := by
  intro xs lay dd kc ks j pc np a b c d z w i len nx jp Q L st G I hd hc hf hn hj
  unfold c_ishr at hc
  unfold s_ishr at hf
  split at hc
  · simp only [Bool.and_eq_true] at hc
    obtain ⟨h2, h3⟩ := hc
    have h2 := kbe h2; have h3 := kbe h3
    subst h2; subst h3
    split at hf
    · exact kr_ishr hd (hn _ _ _ _ _ _ hf)
    · exact hf.elim
  · cases hc
def s_iushr : KF := fun a b c d z xs lay dd nx jp Q kc ks L st G I =>
  match st with
  | (0, _, y) :: (0, _, x) :: st => nx kc ks L ((0, 0, kiushr x y) :: st) G I
  | _ => False
def c_iushr : KH := fun j a b c d z w pc np i len =>
  match i with
  | .iushr => Nat.beq len 1 && Nat.beq np (pc + 1)
  | _ => false
theorem ok_iushr : KOk s_iushr c_iushr := by
  intro xs lay dd kc ks j pc np a b c d z w i len nx jp Q L st G I hd hc hf hn hj
  unfold c_iushr at hc
  unfold s_iushr at hf
  split at hc
  · simp only [Bool.and_eq_true] at hc
    obtain ⟨h2, h3⟩ := hc
    have h2 := kbe h2; have h3 := kbe h3
    subst h2; subst h3
    split at hf
    · exact kr_iushr hd (hn _ _ _ _ _ _ hf)
    · exact hf.elim
  · cases hc
def s_ineg : KF := fun a b c d z xs lay dd nx jp Q kc ks L st G I =>
  match st with
  | (0, _, x) :: st => nx kc ks L ((0, 0, w32 (-x)) :: st) G I
  | _ => False
def c_ineg : KH := fun j a b c d z w pc np i len =>
  match i with
  | .ineg => Nat.beq len 1 && Nat.beq np (pc + 1)
  | _ => false
theorem ok_ineg : KOk s_ineg c_ineg := by
  intro xs lay dd kc ks j pc np a b c d z w i len nx jp Q L st G I hd hc hf hn hj
  unfold c_ineg at hc
  unfold s_ineg at hf
  split at hc
  · simp only [Bool.and_eq_true] at hc
    obtain ⟨h2, h3⟩ := hc
    have h2 := kbe h2; have h3 := kbe h3
    subst h2; subst h3
    split at hf
    · exact kr_ineg hd (hn _ _ _ _ _ _ hf)
    · exact hf.elim
  · cases hc
def s_land : KF := fun a b c d z xs lay dd nx jp Q kc ks L st G I =>
  match st with
  | (1, _, y) :: (1, _, x) :: st => nx kc ks L ((1, 0, kland x y) :: st) G I
  | _ => False
def c_land : KH := fun j a b c d z w pc np i len =>
  match i with
  | .land => Nat.beq len 1 && Nat.beq np (pc + 1)
  | _ => false
theorem ok_land : KOk s_land c_land := by
  intro xs lay dd kc ks j pc np a b c d z w i len nx jp Q L st G I hd hc hf hn hj
  unfold c_land at hc
  unfold s_land at hf
  split at hc
  · simp only [Bool.and_eq_true] at hc
    obtain ⟨h2, h3⟩ := hc
    have h2 := kbe h2; have h3 := kbe h3
    subst h2; subst h3
    split at hf
    · exact kr_land hd (hn _ _ _ _ _ _ hf)
    · exact hf.elim
  · cases hc
def s_lor : KF := fun a b c d z xs lay dd nx jp Q kc ks L st G I =>
  match st with
  | (1, _, y) :: (1, _, x) :: st => nx kc ks L ((1, 0, klor x y) :: st) G I
  | _ => False
def c_lor : KH := fun j a b c d z w pc np i len =>
  match i with
  | .lor => Nat.beq len 1 && Nat.beq np (pc + 1)
  | _ => false
theorem ok_lor : KOk s_lor c_lor := by
  intro xs lay dd kc ks j pc np a b c d z w i len nx jp Q L st G I hd hc hf hn hj
  unfold c_lor at hc
  unfold s_lor at hf
  split at hc
  · simp only [Bool.and_eq_true] at hc
    obtain ⟨h2, h3⟩ := hc
    have h2 := kbe h2; have h3 := kbe h3
    subst h2; subst h3
    split at hf
    · exact kr_lor hd (hn _ _ _ _ _ _ hf)
    · exact hf.elim
  · cases hc
def s_lshl : KF := fun a b c d z xs lay dd nx jp Q kc ks L st G I =>
  match st with
  | (0, _, y) :: (1, _, x) :: st => nx kc ks L ((1, 0, klshl x y) :: st) G I
  | _ => False
def c_lshl : KH := fun j a b c d z w pc np i len =>
  match i with
  | .lshl => Nat.beq len 1 && Nat.beq np (pc + 1)
  | _ => false
theorem ok_lshl : KOk s_lshl c_lshl := by
  intro xs lay dd kc ks j pc np a b c d z w i len nx jp Q L st G I hd hc hf hn hj
  unfold c_lshl at hc
  unfold s_lshl at hf
  split at hc
  · simp only [Bool.and_eq_true] at hc
    obtain ⟨h2, h3⟩ := hc
    have h2 := kbe h2; have h3 := kbe h3
    subst h2; subst h3
    split at hf
    · exact kr_lshl hd (hn _ _ _ _ _ _ hf)
    · exact hf.elim
  · cases hc
def s_lcmp : KF := fun a b c d z xs lay dd nx jp Q kc ks L st G I =>
  match st with
  | (1, _, y) :: (1, _, x) :: st => nx kc ks L ((0, 0, klcmp x y) :: st) G I
  | _ => False
def c_lcmp : KH := fun j a b c d z w pc np i len =>
  match i with
  | .lcmp => Nat.beq len 1 && Nat.beq np (pc + 1)
  | _ => false
theorem ok_lcmp : KOk s_lcmp c_lcmp := by
  intro xs lay dd kc ks j pc np a b c d z w i len nx jp Q L st G I hd hc hf hn hj
  unfold c_lcmp at hc
  unfold s_lcmp at hf
  split at hc
  · simp only [Bool.and_eq_true] at hc
    obtain ⟨h2, h3⟩ := hc
    have h2 := kbe h2; have h3 := kbe h3
    subst h2; subst h3
    split at hf
    · exact kr_lcmp hd (hn _ _ _ _ _ _ hf)
    · exact hf.elim
  · cases hc
def s_i2l : KF := fun a b c d z xs lay dd nx jp Q kc ks L st G I =>
  match st with
  | (0, _, x) :: st => nx kc ks L ((1, 0, x) :: st) G I
  | _ => False
def c_i2l : KH := fun j a b c d z w pc np i len =>
  match i with
  | .i2l => Nat.beq len 1 && Nat.beq np (pc + 1)
  | _ => false
theorem ok_i2l : KOk s_i2l c_i2l := by
  intro xs lay dd kc ks j pc np a b c d z w i len nx jp Q L st G I hd hc hf hn hj
  unfold c_i2l at hc
  unfold s_i2l at hf
  split at hc
  · simp only [Bool.and_eq_true] at hc
    obtain ⟨h2, h3⟩ := hc
    have h2 := kbe h2; have h3 := kbe h3
    subst h2; subst h3
    split at hf
    · exact kr_i2l hd (hn _ _ _ _ _ _ hf)
    · exact hf.elim
  · cases hc
def s_l2i : KF := fun a b c d z xs lay dd nx jp Q kc ks L st G I =>
  match st with
  | (1, _, x) :: st => nx kc ks L ((0, 0, w32 x) :: st) G I
  | _ => False
def c_l2i : KH := fun j a b c d z w pc np i len =>
  match i with
  | .l2i => Nat.beq len 1 && Nat.beq np (pc + 1)
  | _ => false
theorem ok_l2i : KOk s_l2i c_l2i := by
  intro xs lay dd kc ks j pc np a b c d z w i len nx jp Q L st G I hd hc hf hn hj
  unfold c_l2i at hc
  unfold s_l2i at hf
  split at hc
  · simp only [Bool.and_eq_true] at hc
    obtain ⟨h2, h3⟩ := hc
    have h2 := kbe h2; have h3 := kbe h3
    subst h2; subst h3
    split at hf
    · exact kr_l2i hd (hn _ _ _ _ _ _ hf)
    · exact hf.elim
  · cases hc
def s_i2b : KF := fun a b c d z xs lay dd nx jp Q kc ks L st G I =>
  match st with
  | (0, _, x) :: st => nx kc ks L ((0, 0, w8 x) :: st) G I
  | _ => False
def c_i2b : KH := fun j a b c d z w pc np i len =>
  match i with
  | .i2b => Nat.beq len 1 && Nat.beq np (pc + 1)
  | _ => false
theorem ok_i2b : KOk s_i2b c_i2b := by
  intro xs lay dd kc ks j pc np a b c d z w i len nx jp Q L st G I hd hc hf hn hj
  unfold c_i2b at hc
  unfold s_i2b at hf
  split at hc
  · simp only [Bool.and_eq_true] at hc
    obtain ⟨h2, h3⟩ := hc
    have h2 := kbe h2; have h3 := kbe h3
    subst h2; subst h3
    split at hf
    · exact kr_i2b hd (hn _ _ _ _ _ _ hf)
    · exact hf.elim
  · cases hc
def s_i2s : KF := fun a b c d z xs lay dd nx jp Q kc ks L st G I =>
  match st with
  | (0, _, x) :: st => nx kc ks L ((0, 0, w16 x) :: st) G I
  | _ => False
def c_i2s : KH := fun j a b c d z w pc np i len =>
  match i with
  | .i2s => Nat.beq len 1 && Nat.beq np (pc + 1)
  | _ => false
theorem ok_i2s : KOk s_i2s c_i2s := by
  intro xs lay dd kc ks j pc np a b c d z w i len nx jp Q L st G I hd hc hf hn hj
  unfold c_i2s at hc
  unfold s_i2s at hf
  split at hc
  · simp only [Bool.and_eq_true] at hc
    obtain ⟨h2, h3⟩ := hc
    have h2 := kbe h2; have h3 := kbe h3
    subst h2; subst h3
    split at hf
    · exact kr_i2s hd (hn _ _ _ _ _ _ hf)
    · exact hf.elim
  · cases hc
def s_dup : KF := fun a b c d z xs lay dd nx jp Q kc ks L st G I =>
  match st with
  | u :: st => bif !(Nat.beq u.1 1) then nx kc ks L (u :: u :: st) G I else False
  | _ => False
def c_dup : KH := fun j a b c d z w pc np i len =>
  match i with
  | .dup => Nat.beq len 1 && Nat.beq np (pc + 1)
  | _ => false
theorem ok_dup : KOk s_dup c_dup := by
  intro xs lay dd kc ks j pc np a b c d z w i len nx jp Q L st G I hd hc hf hn hj
  unfold c_dup at hc
  unfold s_dup at hf
  split at hc
  · simp only [Bool.and_eq_true] at hc
    obtain ⟨h2, h3⟩ := hc
    have h2 := kbe h2; have h3 := kbe h3
    subst h2; subst h3
    split at hf
    · rename_i u st
      cases hb : (!(Nat.beq u.1 1)) with
      | true =>
        rw [hb] at hf
        exact kr_dup hd (fun e => by rw [e] at hb; simp at hb) (hn _ _ _ _ _ _ hf)
      | false => rw [hb] at hf; exact hf.elim
    · exact hf.elim
  · cases hc
def s_pop : KF := fun a b c d z xs lay dd nx jp Q kc ks L st G I =>
  match st with
  | u :: st => bif !(Nat.beq u.1 1) then nx kc ks L (st) G I else False
  | _ => False
def c_pop : KH := fun j a b c d z w pc np i len =>
  match i with
  | .pop => Nat.beq len 1 && Nat.beq np (pc + 1)
  | _ => false
theorem ok_pop : KOk s_pop c_pop := by
  intro xs lay dd kc ks j pc np a b c d z w i len nx jp Q L st G I hd hc hf hn hj
  unfold c_pop at hc
  unfold s_pop at hf
  split at hc
  · simp only [Bool.and_eq_true] at hc
    obtain ⟨h2, h3⟩ := hc
    have h2 := kbe h2; have h3 := kbe h3
    subst h2; subst h3
    split at hf
    · rename_i u st
      cases hb : (!(Nat.beq u.1 1)) with
      | true =>
        rw [hb] at hf
        exact kr_pop hd (fun e => by rw [e] at hb; simp at hb) (hn _ _ _ _ _ _ hf)
      | false => rw [hb] at hf; exact hf.elim
    · exact hf.elim
  · cases hc
def s_dup_x1 : KF := fun a b c d z xs lay dd nx jp Q kc ks L st G I =>
  match st with
  | u :: v :: st => bif !(Nat.beq u.1 1) && !(Nat.beq v.1 1) then nx kc ks L (u :: v :: u :: st) G I else False
  | _ => False
def c_dup_x1 : KH := fun j a b c d z w pc np i len =>
  match i with
  | .dup_x1 => Nat.beq len 1 && Nat.beq np (pc + 1)
  | _ => false
theorem ok_dup_x1 : KOk s_dup_x1 c_dup_x1 := by
  intro xs lay dd kc ks j pc np a b c d z w i len nx jp Q L st G I hd hc hf hn hj
  unfold c_dup_x1 at hc
  unfold s_dup_x1 at hf
  split at hc
  · simp only [Bool.and_eq_true] at hc
    obtain ⟨h2, h3⟩ := hc
    have h2 := kbe h2; have h3 := kbe h3
    subst h2; subst h3
    split at hf
    · rename_i u v st
      cases hb : (!(Nat.beq u.1 1) && !(Nat.beq v.1 1)) with
      | true =>
        rw [hb] at hf
        exact kr_dup_x1 hd (fun e => by rw [e] at hb; simp at hb) (fun e => by rw [e] at hb; simp at hb) (hn _ _ _ _ _ _ hf)
      | false => rw [hb] at hf; exact hf.elim
    · exact hf.elim
  · cases hc
def s_dup2 : KF := fun a b c d z xs lay dd nx jp Q kc ks L st G I =>
  match st with
  | u :: v :: st => bif !(Nat.beq u.1 1) && !(Nat.beq v.1 1) then nx kc ks L (u :: v :: u :: v :: st) G I else False
  | _ => False
def c_dup2 : KH := fun j a b c d z w pc np i len =>
  match i with
  | .dup2 => Nat.beq len 1 && Nat.beq np (pc + 1)
  | _ => false
theorem ok_dup2 : KOk s_dup2 c_dup2 := by
  intro xs lay dd kc ks j pc np a b c d z w i len nx jp Q L st G I hd hc hf hn hj
  unfold c_dup2 at hc
  unfold s_dup2 at hf
  split at hc
  · simp only [Bool.and_eq_true] at hc
    obtain ⟨h2, h3⟩ := hc
    have h2 := kbe h2; have h3 := kbe h3
    subst h2; subst h3
    split at hf
    · rename_i u v st
      cases hb : (!(Nat.beq u.1 1) && !(Nat.beq v.1 1)) with
      | true =>
        rw [hb] at hf
        exact kr_dup2 hd (fun e => by rw [e] at hb; simp at hb) (fun e => by rw [e] at hb; simp at hb) (hn _ _ _ _ _ _ hf)
      | false => rw [hb] at hf; exact hf.elim
    · exact hf.elim
  · cases hc
def s_if_eq : KF := fun a b c d z xs lay dd nx jp Q kc ks L st G I =>
  match st with
  | (0, _, x) :: st => (x = 0 → jp a kc ks L st G I) ∧ (x ≠ 0 → nx kc ks L st G I)
  | _ => False
def c_if_eq : KH := fun j a b c d z w pc np i len =>
  match i with
  | .ifCond .eq off => decide ((pc : Int) + off = (a : Int)) && Nat.beq len 3 && Nat.beq np (pc + 3)
  | _ => false
theorem ok_if_eq : KOk s_if_eq c_if_eq := by
  intro xs lay dd kc ks j pc np a b c d z w i len nx jp Q L st G I hd hc hf hn hj
  unfold c_if_eq at hc
  unfold s_if_eq at hf
  split at hc
  · simp only [Bool.and_eq_true] at hc
    obtain ⟨⟨h1, h2⟩, h3⟩ := hc
    have h1 := of_decide_eq_true h1; have h2 := kbe h2; have h3 := kbe h3
    subst h2; subst h3
    split at hf
    · exact kr_if_eq hd h1 (fun q => hj _ _ _ _ _ _ _ (hf.1 q)) (fun q => hn _ _ _ _ _ _ (hf.2 q))
    · exact hf.elim
  · cases hc
def s_if_ne : KF := fun a b c d z xs lay dd nx jp Q kc ks L st G I =>
  match st with
  | (0, _, x) :: st => (x ≠ 0 → jp a kc ks L st G I) ∧ (x = 0 → nx kc ks L st G I)
  | _ => False
def c_if_ne : KH := fun j a b c d z w pc np i len =>
  match i with
  | .ifCond .ne off => decide ((pc : Int) + off = (a : Int)) && Nat.beq len 3 && Nat.beq np (pc + 3)
  | _ => false
theorem ok_if_ne : KOk s_if_ne c_if_ne := by
  intro xs lay dd kc ks j pc np a b c d z w i len nx jp Q L st G I hd hc hf hn hj
  unfold c_if_ne at hc
  unfold s_if_ne at hf
  split at hc
  · simp only [Bool.and_eq_true] at hc
    obtain ⟨⟨h1, h2⟩, h3⟩ := hc
    have h1 := of_decide_eq_true h1; have h2 := kbe h2; have h3 := kbe h3
    subst h2; subst h3
    split at hf
    · exact kr_if_ne hd h1 (fun q => hj _ _ _ _ _ _ _ (hf.1 q)) (fun q => hn _ _ _ _ _ _ (hf.2 q))
    · exact hf.elim
  · cases hc
def s_if_lt : KF := fun a b c d z xs lay dd nx jp Q kc ks L st G I =>
  match st with
  | (0, _, x) :: st => (x < 0 → jp a kc ks L st G I) ∧ (0 ≤ x → nx kc ks L st G I)
  | _ => False
def c_if_lt : KH := fun j a b c d z w pc np i len =>
  match i with
  | .ifCond .lt off => decide ((pc : Int) + off = (a : Int)) && Nat.beq len 3 && Nat.beq np (pc + 3)
  | _ => false
theorem ok_if_lt : KOk s_if_lt c_if_lt := by
  intro xs lay dd kc ks j pc np a b c d z w i len nx jp Q L st G I hd hc hf hn hj
  unfold c_if_lt at hc
  unfold s_if_lt at hf
  split at hc
  · simp only [Bool.and_eq_true] at hc
    obtain ⟨⟨h1, h2⟩, h3⟩ := hc
    have h1 := of_decide_eq_true h1; have h2 := kbe h2; have h3 := kbe h3
    subst h2; subst h3
    split at hf
    · exact kr_if_lt hd h1 (fun q => hj _ _ _ _ _ _ _ (hf.1 q)) (fun q => hn _ _ _ _ _ _ (hf.2 q))
    · exact hf.elim
  · cases hc
def s_if_ge : KF := fun a b c d z xs lay dd nx jp Q kc ks L st G I =>
  match st with
  | (0, _, x) :: st => (0 ≤ x → jp a kc ks L st G I) ∧ (x < 0 → nx kc ks L st G I)
  | _ => False
def c_if_ge : KH := fun j a b c d z w pc np i len =>
  match i with
  | .ifCond .ge off => decide ((pc : Int) + off = (a : Int)) && Nat.beq len 3 && Nat.beq np (pc + 3)
  | _ => false
theorem ok_if_ge : KOk s_if_ge c_if_ge := by
  intro xs lay dd kc ks j pc np a b c d z w i len nx jp Q L st G I hd hc hf hn hj
  unfold c_if_ge at hc
  unfold s_if_ge at hf
  split at hc
  · simp only [Bool.and_eq_true] at hc
    obtain ⟨⟨h1, h2⟩, h3⟩ := hc
    have h1 := of_decide_eq_true h1; have h2 := kbe h2; have h3 := kbe h3
    subst h2; subst h3
    split at hf
    · exact kr_if_ge hd h1 (fun q => hj _ _ _ _ _ _ _ (hf.1 q)) (fun q => hn _ _ _ _ _ _ (hf.2 q))
    · exact hf.elim
  · cases hc
def s_if_gt : KF := fun a b c d z xs lay dd nx jp Q kc ks L st G I =>
  match st with
  | (0, _, x) :: st => (0 < x → jp a kc ks L st G I) ∧ (x ≤ 0 → nx kc ks L st G I)
  | _ => False
def c_if_gt : KH := fun j a b c d z w pc np i len =>
  match i with
  | .ifCond .gt off => decide ((pc : Int) + off = (a : Int)) && Nat.beq len 3 && Nat.beq np (pc + 3)
  | _ => false
theorem ok_if_gt : KOk s_if_gt c_if_gt := by
  intro xs lay dd kc ks j pc np a b c d z w i len nx jp Q L st G I hd hc hf hn hj
  unfold c_if_gt at hc
  unfold s_if_gt at hf
  split at hc
  · simp only [Bool.and_eq_true] at hc
    obtain ⟨⟨h1, h2⟩, h3⟩ := hc
    have h1 := of_decide_eq_true h1; have h2 := kbe h2; have h3 := kbe h3
    subst h2; subst h3
    split at hf
    · exact kr_if_gt hd h1 (fun q => hj _ _ _ _ _ _ _ (hf.1 q)) (fun q => hn _ _ _ _ _ _ (hf.2 q))
    · exact hf.elim
  · cases hc
def s_if_le : KF := fun a b c d z xs lay dd nx jp Q kc ks L st G I =>
  match st with
  | (0, _, x) :: st => (x ≤ 0 → jp a kc ks L st G I) ∧ (0 < x → nx kc ks L st G I)
  | _ => False
def c_if_le : KH := fun j a b c d z w pc np i len =>
  match i with
  | .ifCond .le off => decide ((pc : Int) + off = (a : Int)) && Nat.beq len 3 && Nat.beq np (pc + 3)
  | _ => false
theorem ok_if_le : KOk s_if_le c_if_le := by
  intro xs lay dd kc ks j pc np a b c d z w i len nx jp Q L st G I hd hc hf hn hj
  unfold c_if_le at hc
  unfold s_if_le at hf
  split at hc
  · simp only [Bool.and_eq_true] at hc
    obtain ⟨⟨h1, h2⟩, h3⟩ := hc
    have h1 := of_decide_eq_true h1; have h2 := kbe h2; have h3 := kbe h3
    subst h2; subst h3
    split at hf
    · exact kr_if_le hd h1 (fun q => hj _ _ _ _ _ _ _ (hf.1 q)) (fun q => hn _ _ _ _ _ _ (hf.2 q))
    · exact hf.elim
  · cases hc
def s_icmp_eq : KF := fun a b c d z xs lay dd nx jp Q kc ks L st G I =>
  match st with
  | (0, _, y) :: (0, _, x) :: st => (x = y → jp a kc ks L st G I) ∧ (x ≠ y → nx kc ks L st G I)
  | _ => False
def c_icmp_eq : KH := fun j a b c d z w pc np i len =>
  match i with
  | .if_icmp .eq off => decide ((pc : Int) + off = (a : Int)) && Nat.beq len 3 && Nat.beq np (pc + 3)
  | _ => false
theorem ok_icmp_eq : KOk s_icmp_eq c_icmp_eq := by
  intro xs lay dd kc ks j pc np a b c d z w i len nx jp Q L st G I hd hc hf hn hj
  unfold c_icmp_eq at hc
  unfold s_icmp_eq at hf
  split at hc
  · simp only [Bool.and_eq_true] at hc
    obtain ⟨⟨h1, h2⟩, h3⟩ := hc
    have h1 := of_decide_eq_true h1; have h2 := kbe h2; have h3 := kbe h3
    subst h2; subst h3
    split at hf
    · exact kr_icmp_eq hd h1 (fun q => hj _ _ _ _ _ _ _ (hf.1 q)) (fun q => hn _ _ _ _ _ _ (hf.2 q))
    · exact hf.elim
  · cases hc
def s_icmp_ne : KF := fun a b c d z xs lay dd nx jp Q kc ks L st G I =>
  match st with
  | (0, _, y) :: (0, _, x) :: st => (x ≠ y → jp a kc ks L st G I) ∧ (x = y → nx kc ks L st G I)
  | _ => False
def c_icmp_ne : KH := fun j a b c d z w pc np i len =>
  match i with
  | .if_icmp .ne off => decide ((pc : Int) + off = (a : Int)) && Nat.beq len 3 && Nat.beq np (pc + 3)
  | _ => false
theorem ok_icmp_ne : KOk s_icmp_ne c_icmp_ne := by
  intro xs lay dd kc ks j pc np a b c d z w i len nx jp Q L st G I hd hc hf hn hj
  unfold c_icmp_ne at hc
  unfold s_icmp_ne at hf
  split at hc
  · simp only [Bool.and_eq_true] at hc
    obtain ⟨⟨h1, h2⟩, h3⟩ := hc
    have h1 := of_decide_eq_true h1; have h2 := kbe h2; have h3 := kbe h3
    subst h2; subst h3
    split at hf
    · exact kr_icmp_ne hd h1 (fun q => hj _ _ _ _ _ _ _ (hf.1 q)) (fun q => hn _ _ _ _ _ _ (hf.2 q))
    · exact hf.elim
  · cases hc
def s_icmp_lt : KF := fun a b c d z xs lay dd nx jp Q kc ks L st G I =>
  match st with
  | (0, _, y) :: (0, _, x) :: st => (x < y → jp a kc ks L st G I) ∧ (y ≤ x → nx kc ks L st G I)
  | _ => False
def c_icmp_lt : KH := fun j a b c d z w pc np i len =>
  match i with
  | .if_icmp .lt off => decide ((pc : Int) + off = (a : Int)) && Nat.beq len 3 && Nat.beq np (pc + 3)
  | _ => false
theorem ok_icmp_lt : KOk s_icmp_lt c_icmp_lt := by
  intro xs lay dd kc ks j pc np a b c d z w i len nx jp Q L st G I hd hc hf hn hj
  unfold c_icmp_lt at hc
  unfold s_icmp_lt at hf
  split at hc
  · simp only [Bool.and_eq_true] at hc
    obtain ⟨⟨h1, h2⟩, h3⟩ := hc
    have h1 := of_decide_eq_true h1; have h2 := kbe h2; have h3 := kbe h3
    subst h2; subst h3
    split at hf
    · exact kr_icmp_lt hd h1 (fun q => hj _ _ _ _ _ _ _ (hf.1 q)) (fun q => hn _ _ _ _ _ _ (hf.2 q))
    · exact hf.elim
  · cases hc
def s_icmp_ge : KF := fun a b c d z xs lay dd nx jp Q kc ks L st G I =>
  match st with
  | (0, _, y) :: (0, _, x) :: st => (y ≤ x → jp a kc ks L st G I) ∧ (x < y → nx kc ks L st G I)
  | _ => False
def c_icmp_ge : KH := fun j a b c d z w pc np i len =>
  match i with
  | .if_icmp .ge off => decide ((pc : Int) + off = (a : Int)) && Nat.beq len 3 && Nat.beq np (pc + 3)
  | _ => false
theorem ok_icmp_ge : KOk s_icmp_ge c_icmp_ge := by
  intro xs lay dd kc ks j pc np a b c d z w i len nx jp Q L st G I hd hc hf hn hj
  unfold c_icmp_ge at hc
  unfold s_icmp_ge at hf
  split at hc
  · simp only [Bool.and_eq_true] at hc
    obtain ⟨⟨h1, h2⟩, h3⟩ := hc
    have h1 := of_decide_eq_true h1; have h2 := kbe h2; have h3 := kbe h3
    subst h2; subst h3
    split at hf
    · exact kr_icmp_ge hd h1 (fun q => hj _ _ _ _ _ _ _ (hf.1 q)) (fun q => hn _ _ _ _ _ _ (hf.2 q))
    · exact hf.elim
  · cases hc
def s_icmp_gt : KF := fun a b c d z xs lay dd nx jp Q kc ks L st G I =>
  match st with
  | (0, _, y) :: (0, _, x) :: st => (y < x → jp a kc ks L st G I) ∧ (x ≤ y → nx kc ks L st G I)
  | _ => False
def c_icmp_gt : KH := fun j a b c d z w pc np i len =>
  match i with
  | .if_icmp .gt off => decide ((pc : Int) + off = (a : Int)) && Nat.beq len 3 && Nat.beq np (pc + 3)
  | _ => false
theorem ok_icmp_gt : KOk s_icmp_gt c_icmp_gt := by
  intro xs lay dd kc ks j pc np a b c d z w i len nx jp Q L st G I hd hc hf hn hj
  unfold c_icmp_gt at hc
  unfold s_icmp_gt at hf
  split at hc
  · simp only [Bool.and_eq_true] at hc
    obtain ⟨⟨h1, h2⟩, h3⟩ := hc
    have h1 := of_decide_eq_true h1; have h2 := kbe h2; have h3 := kbe h3
    subst h2; subst h3
    split at hf
    · exact kr_icmp_gt hd h1 (fun q => hj _ _ _ _ _ _ _ (hf.1 q)) (fun q => hn _ _ _ _ _ _ (hf.2 q))
    · exact hf.elim
  · cases hc
def s_icmp_le : KF := fun a b c d z xs lay dd nx jp Q kc ks L st G I =>
  match st with
  | (0, _, y) :: (0, _, x) :: st => (x ≤ y → jp a kc ks L st G I) ∧ (y < x → nx kc ks L st G I)
  | _ => False
def c_icmp_le : KH := fun j a b c d z w pc np i len =>
  match i with
  | .if_icmp .le off => decide ((pc : Int) + off = (a : Int)) && Nat.beq len 3 && Nat.beq np (pc + 3)
  | _ => false
theorem ok_icmp_le : KOk s_icmp_le c_icmp_le := by
  intro xs lay dd kc ks j pc np a b c d z w i len nx jp Q L st G I hd hc hf hn hj
  unfold c_icmp_le at hc
  unfold s_icmp_le at hf
  split at hc
  · simp only [Bool.and_eq_true] at hc
    obtain ⟨⟨h1, h2⟩, h3⟩ := hc
    have h1 := of_decide_eq_true h1; have h2 := kbe h2; have h3 := kbe h3
    subst h2; subst h3
    split at hf
    · exact kr_icmp_le hd h1 (fun q => hj _ _ _ _ _ _ _ (hf.1 q)) (fun q => hn _ _ _ _ _ _ (hf.2 q))
    · exact hf.elim
  · cases hc
def s_goto : KF := fun a b c d z xs lay dd nx jp Q kc ks L st G I =>
  jp a kc ks L st G I
def c_goto : KH := fun j a b c d z w pc np i len =>
  match i with
  | .goto off => decide ((pc : Int) + off = (a : Int)) && Nat.beq len 3
  | _ => false
theorem ok_goto : KOk s_goto c_goto := by
  intro xs lay dd kc ks j pc np a b c d z w i len nx jp Q L st G I hd hc hf hn hj
  unfold c_goto at hc
  unfold s_goto at hf
  split at hc
  · simp only [Bool.and_eq_true] at hc
    obtain ⟨h1, h2⟩ := hc
    have h1 := of_decide_eq_true h1; have h2 := kbe h2
    subst h2
    exact kr_goto hd h1 (hj _ _ _ _ _ _ _ hf)
  · cases hc
def s_ifnonnull : KF := fun a b c d z xs lay dd nx jp Q kc ks L st G I =>
  match st with
  | (t, _, _) :: st => bif Nat.ble 2 t then (bif Nat.beq t 2 then nx kc ks L st G I else jp a kc ks L st G I) else False
  | _ => False
def c_ifnonnull : KH := fun j a b c d z w pc np i len =>
  match i with
  | .ifnonnull off => decide ((pc : Int) + off = (a : Int)) && Nat.beq len 3 && Nat.beq np (pc + 3)
  | _ => false
theorem ok_ifnonnull : KOk s_ifnonnull c_ifnonnull := by
  intro xs lay dd kc ks j pc np a b c d z w i len nx jp Q L st G I hd hc hf hn hj
  unfold c_ifnonnull at hc
  unfold s_ifnonnull at hf
  split at hc
  · simp only [Bool.and_eq_true] at hc
    obtain ⟨⟨h1, h2⟩, h3⟩ := hc
    have h1 := of_decide_eq_true h1; have h2 := kbe h2; have h3 := kbe h3
    subst h2; subst h3
    split at hf
    · rename_i t n x st
      cases hb : Nat.ble 2 t with
      | true =>
        rw [hb] at hf
        refine kr_ifnonnull hd h1 (fun q => ?_) (fun q => ?_) (Nat.le_of_ble_eq_true hb)
        · have hb2 : Nat.beq t 2 = false := by rw [nbeq]; exact decide_eq_false (by omega)
          simp only [cond_true, hb2, cond_false] at hf
          exact hj _ _ _ _ _ _ _ hf
        · have hb2 : Nat.beq t 2 = true := by rw [nbeq]; exact decide_eq_true q
          simp only [cond_true, hb2] at hf
          exact hn _ _ _ _ _ _ hf
      | false => rw [hb] at hf; exact hf.elim
    · exact hf.elim
  · cases hc
def ktc (x : Int) (f : Nat → Prop) : Int → List Nat → Prop
  | _, [] => True
  | lo, t :: r => (x = lo → f t) ∧ ktc x f (lo + 1) r
theorem ktc_at {x : Int} {f : Nat → Prop} : ∀ {l : List Nat} {lo : Int} {t : Nat}, ktc x f lo l → l[(x - lo).toNat]? = some t → lo ≤ x → f t
  | [], lo, t, _, h, _ => by simp at h
  | u :: r, lo, t, hk, h, hl => by
    unfold ktc at hk
    by_cases he : x = lo
    · rw [show (x - lo).toNat = 0 by omega] at h
      cases h
      exact hk.1 he
    · refine ktc_at hk.2 ?_ (by omega)
      rw [show (x - lo).toNat = (x - (lo + 1)).toNat + 1 by omega] at h
      simpa using h
def ktt (pc : Nat) (offs : List Int) (ts : List Nat) : Bool := match offs, ts with
  | [], [] => true
  | o :: os, t :: r => decide ((pc : Int) + o = (t : Int)) && ktt pc os r
  | _, _ => false
theorem ktt_at {pc : Nat} : ∀ {offs : List Int} {ts : List Nat}, ktt pc offs ts = true → offs.length = ts.length ∧ ∀ (k : Nat) (off : Int), offs[k]? = some off → ∃ t, ts[k]? = some t ∧ (pc : Int) + off = (t : Int)
  | [], [], _ => ⟨rfl, fun k off h => by simp at h⟩
  | o :: os, t :: r, h => by
    unfold ktt at h
    rw [Bool.and_eq_true, decide_eq_true_eq] at h
    obtain ⟨h1, h2⟩ := ktt_at h.2
    refine ⟨by simp [h1], fun k off hk => ?_⟩
    cases k with
    | zero => cases hk; exact ⟨t, rfl, h.1⟩
    | succ k => exact h2 k off (by simpa using hk)
  | [], _ :: _, h => by unfold ktt at h; cases h
  | _ :: _, [], h => by unfold ktt at h; cases h
def s_tsw : KF := fun a b c d z xs lay dd nx jp Q kc ks L st G I =>
  match st with
  | (0, _, x) :: st => (x < z → jp a kc ks L st G I) ∧ (z + b ≤ x → jp a kc ks L st G I) ∧ ktc x (fun t => jp t kc ks L st G I) z (kTsw c)
  | _ => False
def c_tsw : KH := fun j a b c d z w pc np i len =>
  match i with
  | .tableswitch dflt lo hi offs => decide (lo = z) && decide (hi + 1 = z + b) && decide ((pc : Int) + dflt = (a : Int)) && Nat.beq (kTsw c).length b && ktt pc offs.toList (kTsw c)
  | _ => false
theorem ok_tsw : KOk s_tsw c_tsw := by
  intro xs lay dd kc ks j pc np a b c d z w i len nx jp Q L st G I hd hc hf hn hj
  unfold c_tsw at hc
  unfold s_tsw at hf
  split at hc
  · simp only [Bool.and_eq_true] at hc
    rename_i dflt lo hi offs
    obtain ⟨⟨⟨⟨h1, h2⟩, h3⟩, h4⟩, h5⟩ := hc
    have h1 := of_decide_eq_true h1; have h2 := of_decide_eq_true h2; have h3 := of_decide_eq_true h3; have h4 := kbe h4
    obtain ⟨h6, h7⟩ := ktt_at h5
    subst h1
    split at hf
    · rename_i x st
      obtain ⟨f1, f2, f3⟩ := hf
      by_cases hx1 : x < lo
      · exact kr_tableOut hd (Or.inl hx1) h3 (hj _ _ _ _ _ _ _ (f1 hx1))
      by_cases hx2 : hi < x
      · exact kr_tableOut hd (Or.inr hx2) h3 (hj _ _ _ _ _ _ _ (f2 (by omega)))
      have hlt : (x - lo).toNat < offs.toList.length := by omega
      obtain ⟨t, g1, g2⟩ := h7 (x - lo).toNat offs.toList[(x - lo).toNat] (List.getElem?_eq_getElem hlt)
      refine kr_tableIn hd (by omega) (by omega) (off := offs.toList[(x - lo).toNat]) ?_ g2 (hj _ _ _ _ _ _ _ (ktc_at f3 g1 (by omega)))
      rw [← Array.getElem?_toList]
      exact List.getElem?_eq_getElem hlt
    · exact hf.elim
  · cases hc
def klc (x : Int) (f : Nat → Prop) (df : Prop) : List (Int × Nat) → Prop
  | [] => df
  | q :: r => (x = q.1 → f q.2) ∧ (x ≠ q.1 → klc x f df r)
def klt (pc : Nat) (ps : List (Int × Int)) (ts : List (Int × Nat)) : Bool := match ps, ts with
  | [], [] => true
  | p :: ps, t :: r => decide (p.1 = t.1) && decide ((pc : Int) + p.2 = (t.2 : Int)) && klt pc ps r
  | _, _ => false
def kof (d x : Int) : List (Int × Int) → Int
  | [] => d
  | p :: r => if x = p.1 then p.2 else kof d x r
theorem klt_at {pc : Nat} {f : Nat → Prop} {df : Prop} {x d : Int} {dt : Nat} (hdt : (pc : Int) + d = (dt : Int)) : ∀ {ps : List (Int × Int)} {ts : List (Int × Nat)}, klt pc ps ts = true → klc x f df ts → ∃ t : Nat, (pc : Int) + kof d x ps = (t : Int) ∧ (f t ∨ (t = dt ∧ df))
  | [], [], _, hk => ⟨dt, hdt, Or.inr ⟨rfl, hk⟩⟩
  | p :: ps, t :: r, h, hk => by
    unfold klt at h
    simp only [Bool.and_eq_true, decide_eq_true_eq] at h
    unfold klc at hk
    unfold kof
    by_cases he : x = p.1
    · rw [if_pos he]
      exact ⟨t.2, h.1.2, Or.inl (hk.1 (by rw [he, h.1.1]))⟩
    · rw [if_neg he]
      exact klt_at hdt h.2 (hk.2 (by rw [← h.1.1]; exact he))
  | [], _ :: _, h, _ => by unfold klt at h; cases h
  | _ :: _, [], h, _ => by unfold klt at h; cases h
theorem kof_eq (d x : Int) : ∀ (ps : List (Int × Int)), Op.lookupswitch.offset ps d x = kof d x ps
  | [] => by first | rfl | simp [Op.lookupswitch.offset, kof]
  | p :: r => by
    have := kof_eq d x r
    unfold kof
    by_cases he : x = p.1
    · rw [if_pos he]
      simp [Op.lookupswitch.offset, he]
    · rw [if_neg he, ← this]
      have he2 : ¬ p.1 = x := fun q => he q.symm
      simp [Op.lookupswitch.offset, he, he2]
def s_lsw : KF := fun a b c d z xs lay dd nx jp Q kc ks L st G I =>
  match st with
  | (0, _, x) :: st => klc x (fun t => jp t kc ks L st G I) (jp a kc ks L st G I) (kLsw c)
  | _ => False
def c_lsw : KH := fun j a b c d z w pc np i len =>
  match i with
  | .lookupswitch dflt ps => (ps.toList.zip (ps.toList.drop 1)).all (fun (a, next) => a.1 < next.1) && decide ((pc : Int) + dflt = (a : Int)) && klt pc ps.toList (kLsw c)
  | _ => false
theorem ok_lsw : KOk s_lsw c_lsw := by
  intro xs lay dd kc ks j pc np a b c d z w i len nx jp Q L st G I hd hc hf hn hj
  unfold c_lsw at hc
  unfold s_lsw at hf
  split at hc
  · simp only [Bool.and_eq_true] at hc
    rename_i dflt ps
    obtain ⟨⟨h1, h2⟩, h3⟩ := hc
    have h2 := of_decide_eq_true h2
    split at hf
    · rename_i x st
      obtain ⟨t, g1, g2⟩ := klt_at h2 h3 hf
      refine kr_lookup hd h1 (off := kof dflt x ps.toList) ?_ g1 ?_
      · exact kof_eq _ _ _
      · rcases g2 with g2 | ⟨rfl, g2⟩
        · exact hj _ _ _ _ _ _ _ g2
        · exact hj _ _ _ _ _ _ _ g2
    · exact hf.elim
  · cases hc
def s_iald : KF := fun a b c d z xs lay dd nx jp Q kc ks L st G I =>
  match st with
  | (0, _, i) :: (4, n, q) :: st => (0 ≤ i ∧ i < (n : Int)) ∧ nx kc ks L ((0, 0, I q i) :: st) G I
  | (0, _, i) :: (3, _, q) :: st => (0 ≤ i ∧ i < ((xs q.toNat).1 : Int)) ∧ nx kc ks L ((0, 0, (xs q.toNat).2 i) :: st) G I
  | _ => False
def c_iald : KH := fun j a b c d z w pc np i len =>
  match i with
  | .iaload => Nat.beq len 1 && Nat.beq np (pc + 1)
  | _ => false
theorem ok_iald : KOk s_iald c_iald := by
  intro xs lay dd kc ks j pc np a b c d z w i len nx jp Q L st G I hd hc hf hn hj
  unfold c_iald at hc
  unfold s_iald at hf
  split at hc
  · simp only [Bool.and_eq_true] at hc
    obtain ⟨h2, h3⟩ := hc
    have h2 := kbe h2; have h3 := kbe h3
    subst h2; subst h3
    split at hf
    · exact kr_iald hd hf.1.1 hf.1.2 (hn _ _ _ _ _ _ hf.2)
    · exact kr_sald hd hf.1.1 hf.1.2 (hn _ _ _ _ _ _ hf.2)
    · exact hf.elim
  · cases hc
def s_bald : KF := fun a b c d z xs lay dd nx jp Q kc ks L st G I =>
  match st with
  | (0, _, i) :: (6, n, q) :: st => (0 ≤ i ∧ i < (n : Int)) ∧ nx kc ks L ((0, 0, I q i) :: st) G I
  | (0, _, i) :: (7, n, q) :: st => (0 ≤ i ∧ i < (n : Int)) ∧ nx kc ks L ((0, 0, I q i) :: st) G I
  | _ => False
def c_bald : KH := fun j a b c d z w pc np i len =>
  match i with
  | .baload => Nat.beq len 1 && Nat.beq np (pc + 1)
  | _ => false
theorem ok_bald : KOk s_bald c_bald := by
  intro xs lay dd kc ks j pc np a b c d z w i len nx jp Q L st G I hd hc hf hn hj
  unfold c_bald at hc
  unfold s_bald at hf
  split at hc
  · simp only [Bool.and_eq_true] at hc
    obtain ⟨h2, h3⟩ := hc
    have h2 := kbe h2; have h3 := kbe h3
    subst h2; subst h3
    split at hf
    · exact kr_bald hd hf.1.1 hf.1.2 (hn _ _ _ _ _ _ hf.2)
    · exact kr_zald hd hf.1.1 hf.1.2 (hn _ _ _ _ _ _ hf.2)
    · exact hf.elim
  · cases hc
def s_lald : KF := fun a b c d z xs lay dd nx jp Q kc ks L st G I =>
  match st with
  | (0, _, i) :: (5, n, q) :: st => (0 ≤ i ∧ i < (n : Int)) ∧ nx kc ks L ((1, 0, I q i) :: st) G I
  | _ => False
def c_lald : KH := fun j a b c d z w pc np i len =>
  match i with
  | .laload => Nat.beq len 1 && Nat.beq np (pc + 1)
  | _ => false
theorem ok_lald : KOk s_lald c_lald := by
  intro xs lay dd kc ks j pc np a b c d z w i len nx jp Q L st G I hd hc hf hn hj
  unfold c_lald at hc
  unfold s_lald at hf
  split at hc
  · simp only [Bool.and_eq_true] at hc
    obtain ⟨h2, h3⟩ := hc
    have h2 := kbe h2; have h3 := kbe h3
    subst h2; subst h3
    split at hf
    · exact kr_lald hd hf.1.1 hf.1.2 (hn _ _ _ _ _ _ hf.2)
    · exact hf.elim
  · cases hc
def s_alen : KF := fun a b c d z xs lay dd nx jp Q kc ks L st G I =>
  match st with
  | (3, _, q) :: st => nx kc ks L ((0, 0, ((xs q.toNat).1 : Int)) :: st) G I
  | (t, n, _) :: st => bif Nat.ble 4 t && Nat.ble t 9 then nx kc ks L ((0, 0, (n : Int)) :: st) G I else False
  | _ => False
def c_alen : KH := fun j a b c d z w pc np i len =>
  match i with
  | .arraylength => Nat.beq len 1 && Nat.beq np (pc + 1)
  | _ => false
theorem ok_alen : KOk s_alen c_alen := by
  intro xs lay dd kc ks j pc np a b c d z w i len nx jp Q L st G I hd hc hf hn hj
  unfold c_alen at hc
  unfold s_alen at hf
  split at hc
  · simp only [Bool.and_eq_true] at hc
    obtain ⟨h2, h3⟩ := hc
    have h2 := kbe h2; have h3 := kbe h3
    subst h2; subst h3
    split at hf
    · exact kr_slen hd (hn _ _ _ _ _ _ hf)
    · rename_i t n q st _
      cases hb : (Nat.ble 4 t && Nat.ble t 9) with
      | true =>
        rw [hb] at hf
        rw [Bool.and_eq_true] at hb
        have h4 := Nat.le_of_ble_eq_true hb.1
        have h9 := Nat.le_of_ble_eq_true hb.2
        obtain ⟨u, rfl⟩ : ∃ u, t = u + 4 := ⟨t - 4, by omega⟩
        exact kr_alen hd (by omega) (hn _ _ _ _ _ _ hf)
      | false => rw [hb] at hf; exact hf.elim
    · exact hf.elim
  · cases hc
def s_iast : KF := fun a b c d z xs lay dd nx jp Q kc ks L st G I =>
  match st with
  | (0, _, x) :: (0, _, i) :: (4, n, q) :: st => (0 ≤ i ∧ i < (n : Int)) ∧ nx kc ks L st G (kst I q i x)
  | _ => False
def c_iast : KH := fun j a b c d z w pc np i len =>
  match i with
  | .iastore => Nat.beq len 1 && Nat.beq np (pc + 1)
  | _ => false
theorem ok_iast : KOk s_iast c_iast := by
  intro xs lay dd kc ks j pc np a b c d z w i len nx jp Q L st G I hd hc hf hn hj
  unfold c_iast at hc
  unfold s_iast at hf
  split at hc
  · simp only [Bool.and_eq_true] at hc
    obtain ⟨h2, h3⟩ := hc
    have h2 := kbe h2; have h3 := kbe h3
    subst h2; subst h3
    split at hf
    · exact kr_iast hd hf.1.1 hf.1.2 (hn _ _ _ _ _ _ hf.2)
    · exact hf.elim
  · cases hc
def kzr (x : Int) (p : Prop) : Prop := match x with
  | 0 => p
  | 1 => p
  | _ => False
theorem kzr_of {x : Int} {p : Prop} (h : kzr x p) : (x = 0 ∨ x = 1) ∧ p := by
  unfold kzr at h
  split at h
  · exact ⟨Or.inl rfl, h⟩
  · exact ⟨Or.inr rfl, h⟩
  · exact h.elim
theorem kzr_in {x : Int} {p : Prop} (h1 : x = 0 ∨ x = 1) (h : p) : kzr x p := by
  rcases h1 with rfl | rfl <;> exact h
def s_bast : KF := fun a b c d z xs lay dd nx jp Q kc ks L st G I =>
  match st with
  | (0, _, x) :: (0, _, i) :: (6, n, q) :: st => (0 ≤ i ∧ i < (n : Int)) ∧ nx kc ks L st G (kst I q i (w8 x))
  | (0, _, x) :: (0, _, i) :: (7, n, q) :: st => (0 ≤ i ∧ i < (n : Int)) ∧ kzr x (nx kc ks L st G (kst I q i x))
  | _ => False
def c_bast : KH := fun j a b c d z w pc np i len =>
  match i with
  | .bastore => Nat.beq len 1 && Nat.beq np (pc + 1)
  | _ => false
theorem ok_bast : KOk s_bast c_bast := by
  intro xs lay dd kc ks j pc np a b c d z w i len nx jp Q L st G I hd hc hf hn hj
  unfold c_bast at hc
  unfold s_bast at hf
  split at hc
  · simp only [Bool.and_eq_true] at hc
    obtain ⟨h2, h3⟩ := hc
    have h2 := kbe h2; have h3 := kbe h3
    subst h2; subst h3
    split at hf
    · exact kr_bast hd hf.1.1 hf.1.2 (hn _ _ _ _ _ _ hf.2)
    · exact kr_zast hd hf.1.1 hf.1.2 (kzr_of hf.2).1 (hn _ _ _ _ _ _ (kzr_of hf.2).2)
    · exact hf.elim
  · cases hc
def s_last : KF := fun a b c d z xs lay dd nx jp Q kc ks L st G I =>
  match st with
  | (1, _, x) :: (0, _, i) :: (5, n, q) :: st => (0 ≤ i ∧ i < (n : Int)) ∧ nx kc ks L st G (kst I q i x)
  | _ => False
def c_last : KH := fun j a b c d z w pc np i len =>
  match i with
  | .lastore => Nat.beq len 1 && Nat.beq np (pc + 1)
  | _ => false
theorem ok_last : KOk s_last c_last := by
  intro xs lay dd kc ks j pc np a b c d z w i len nx jp Q L st G I hd hc hf hn hj
  unfold c_last at hc
  unfold s_last at hf
  split at hc
  · simp only [Bool.and_eq_true] at hc
    obtain ⟨h2, h3⟩ := hc
    have h2 := kbe h2; have h3 := kbe h3
    subst h2; subst h3
    split at hf
    · exact kr_last hd hf.1.1 hf.1.2 (hn _ _ _ _ _ _ hf.2)
    · exact hf.elim
  · cases hc
def s_aald : KF := fun a b c d z xs lay dd nx jp Q kc ks L st G I =>
  match st with
  | (0, _, i) :: (8, n, q) :: st => (0 ≤ i ∧ i < (n : Int)) ∧ (bif lay then nx kc ks L ((13, 0, q + (39 + 4 * i)) :: st) G I else False)
  | (0, _, i) :: (9, n, q) :: st => (0 ≤ i ∧ i < (n : Int)) ∧ (bif lay then nx kc ks L ((15, 0, q + (49 + 2 * i)) :: st) G I else False)
  | _ => False
def c_aald : KH := fun j a b c d z w pc np i len =>
  match i with
  | .aaload => Nat.beq len 1 && Nat.beq np (pc + 1)
  | _ => false
theorem ok_aald : KOk s_aald c_aald := by
  intro xs lay dd kc ks j pc np a b c d z w i len nx jp Q L st G I hd hc hf hn hj
  unfold c_aald at hc
  unfold s_aald at hf
  split at hc
  · simp only [Bool.and_eq_true] at hc
    obtain ⟨h2, h3⟩ := hc
    have h2 := kbe h2; have h3 := kbe h3
    subst h2; subst h3
    split at hf
    · rename_i n2 i n q st
      obtain ⟨⟨h0, h1⟩, hf⟩ := hf
      cases hlay : lay with
      | true =>
        rw [hlay] at hf
        subst hlay
        have h5 := kr_aaldL (n2 := n2) (t := 8) (w := 0) (f := 39 + 4 * i.toNat) hd h0 h1 rfl (Or.inl rfl) rfl (h := hn _ _ _ _ _ _ (by
          rw [show ((39 + 4 * i.toNat : Nat) : Int) = 39 + 4 * i from by omega]; exact hf))
        exact h5
      | false => rw [hlay] at hf; exact hf.elim
    · rename_i n2 i n q st
      obtain ⟨⟨h0, h1⟩, hf⟩ := hf
      cases hlay : lay with
      | true =>
        rw [hlay] at hf
        subst hlay
        have h5 := kr_aaldL (n2 := n2) (t := 9) (w := 0) (f := 49 + 2 * i.toNat) hd h0 h1 rfl (Or.inr rfl) rfl (h := hn _ _ _ _ _ _ (by
          rw [show ((49 + 2 * i.toNat : Nat) : Int) = 49 + 2 * i from by omega]; exact hf))
        exact h5
      | false => rw [hlay] at hf; exact hf.elim
    · exact hf.elim
  · cases hc
def s_aast : KF := fun a b c d z xs lay dd nx jp Q kc ks L st G I =>
  match st with
  | (13, _, x) :: (0, _, i) :: (8, n, q) :: st => (0 ≤ i ∧ i < (n : Int)) ∧ (bif lay then False else nx kc ks L st (kGr G q i x) I)
  | (15, _, x) :: (0, _, i) :: (9, n, q) :: st => (0 ≤ i ∧ i < (n : Int)) ∧ (bif lay then False else nx kc ks L st (kGr G q i x) I)
  | _ => False
def c_aast : KH := fun j a b c d z w pc np i len =>
  match i with
  | .aastore => Nat.beq len 1 && Nat.beq np (pc + 1)
  | _ => false
theorem ok_aast : KOk s_aast c_aast := by
  intro xs lay dd kc ks j pc np a b c d z w i len nx jp Q L st G I hd hc hf hn hj
  unfold c_aast at hc
  unfold s_aast at hf
  split at hc
  · simp only [Bool.and_eq_true] at hc
    obtain ⟨h2, h3⟩ := hc
    have h2 := kbe h2; have h3 := kbe h3
    subst h2; subst h3
    split at hf
    · obtain ⟨⟨h0, h1⟩, hf⟩ := hf
      cases hlay : lay with
      | true => rw [hlay] at hf; exact hf.elim
      | false =>
        rw [hlay] at hf
        subst hlay
        exact kr_aast (ci := 3) hd h0 h1 rfl (Or.inl ⟨rfl, rfl⟩) (hn _ _ _ _ _ _ hf)
    · obtain ⟨⟨h0, h1⟩, hf⟩ := hf
      cases hlay : lay with
      | true => rw [hlay] at hf; exact hf.elim
      | false =>
        rw [hlay] at hf
        subst hlay
        exact kr_aast (ci := 5) hd h0 h1 rfl (Or.inr ⟨rfl, rfl⟩) (hn _ _ _ _ _ _ hf)
    · exact hf.elim
  · cases hc
def s_geti : KF := fun a b c d z xs lay dd nx jp Q kc ks L st G I =>
  match st with
  | (t, _, x) :: st => bif Nat.beq t (10 + a) then nx kc ks L ((0, 0, I x b) :: st) G I else False
  | _ => False
def c_geti : KH := fun j a b c d z w pc np i len =>
  match i with
  | .getfield idx => match kcl[a]? with
    | some q => Nat.blt b q.2.2 && kIs w (Cond.fieldLink (kMy j).cls idx (q.2.1 b).1 (q.2.1 b).2.1 (q.2.1 b).2.2.1) && (Nat.beq (kFt a b) 0 || Nat.beq (kFt a b) 2) && Nat.beq len 3 && Nat.beq np (pc + 3)
    | none => false
  | _ => false
theorem ok_geti : KOk s_geti c_geti := by
  intro xs lay dd kc ks j pc np a b c d z w i len nx jp Q L st G I hd hc hf hn hj
  unfold c_geti at hc
  unfold s_geti at hf
  split at hc
  · split at hc
    · rename_i q hq
      simp only [Bool.and_eq_true] at hc
      obtain ⟨⟨⟨⟨h1, h2⟩, h3⟩, h4⟩, h5⟩ := hc
      have h1 := Nat.le_of_ble_eq_true h1
      have h2 := kIs_in h2
      have h4 := kbe h4; have h5 := kbe h5
      subst h4; subst h5
      split at hf
      · rename_i t _ x st
        cases hb : Nat.beq t (10 + a) with
        | true =>
          rw [hb] at hf
          have hb := kbe hb
          subst hb
          exact kr_geti hd hq h1 h2 (by rcases Bool.or_eq_true _ _ ▸ h3 with g | g; exact Or.inl (kbe g); exact Or.inr (kbe g)) (hn _ _ _ _ _ _ hf)
        | false => rw [hb] at hf; exact hf.elim
      · exact hf.elim
    · cases hc
  · cases hc
def s_getr : KF := fun a b c d z xs lay dd nx jp Q kc ks L st G I =>
  match st with
  | (t, _, x) :: st => bif Nat.beq t (10 + a) then (bif lay then nx kc ks L ((c, d, x + z) :: st) G I else 0 ≤ G.2.2 x b ∧ nx kc ks L ((c, (G.2.1 (G.2.2 x b)).2, G.2.2 x b) :: st) G I) else False
  | _ => False
def c_getr : KH := fun j a b c d z w pc np i len =>
  match i with
  | .getfield idx => match kcl[a]? with
    | some q => Nat.blt b q.2.2 && kIs w (Cond.fieldLink (kMy j).cls idx (q.2.1 b).1 (q.2.1 b).2.1 (q.2.1 b).2.2.1) && (Nat.beq (kFt a b) c && Nat.ble 4 c && (match kOff (10 + a) b with
      | some (f, l) => Nat.beq l d && decide ((f : Int) = z)
      | none => false)) && Nat.beq len 3 && Nat.beq np (pc + 3)
    | none => false
  | _ => false
theorem ok_getr : KOk s_getr c_getr := by
  intro xs lay dd kc ks j pc np a b c d z w i len nx jp Q L st G I hd hc hf hn hj
  unfold c_getr at hc
  unfold s_getr at hf
  split at hc
  · split at hc
    · rename_i q hq
      simp only [Bool.and_eq_true] at hc
      obtain ⟨⟨⟨⟨h1, h2⟩, h3⟩, h4⟩, h5⟩ := hc
      have h1 := Nat.le_of_ble_eq_true h1
      have h2 := kIs_in h2
      have h4 := kbe h4; have h5 := kbe h5
      subst h4; subst h5
      obtain ⟨⟨h6, h7⟩, h8⟩ := h3
      split at hf
      · rename_i t _ x st
        cases hb : Nat.beq t (10 + a) with
        | true =>
          rw [hb] at hf
          have hb := kbe hb
          subst hb
          obtain ⟨u, rfl⟩ : ∃ u, c = u + 4 := ⟨c - 4, by have := Nat.le_of_ble_eq_true h7; omega⟩
          cases hlay : lay with
          | true =>
            rw [hlay] at hf
            subst hlay
            split at h8
            · rename_i f l ho
              simp only [Bool.and_eq_true] at h8
              have g1 := kbe h8.1
              have g2 := of_decide_eq_true h8.2
              subst g1; subst g2
              exact kr_getL hd hq h1 h2 rfl (kbe h6) ho (hn _ _ _ _ _ _ hf)
            · cases h8
          | false =>
            rw [hlay] at hf
            subst hlay
            exact kr_getr hd hq h1 h2 (kbe h6) hf.1 (hn _ _ _ _ _ _ hf.2)
        | false => rw [hb] at hf; exact hf.elim
      · exact hf.elim
    · cases hc
  · cases hc
def s_gett : KF := fun a b c d z xs lay dd nx jp Q kc ks L st G I =>
  match st with
  | (11, _, x) :: st => bif lay then nx kc ks L ((6, 120, G.2.2 x 2) :: st) G I else False
  | _ => False
def c_gett : KH := fun j a b c d z w pc np i len =>
  match i with
  | .getfield idx => kIs w (Cond.fieldLink (kMy j).cls idx (TX1 2).1 (TX1 2).2.1 (TX1 2).2.2.1) && Nat.beq len 3 && Nat.beq np (pc + 3)
  | _ => false
theorem ok_gett : KOk s_gett c_gett := by
  intro xs lay dd kc ks j pc np a b c d z w i len nx jp Q L st G I hd hc hf hn hj
  unfold c_gett at hc
  unfold s_gett at hf
  split at hc
  · simp only [Bool.and_eq_true] at hc
    obtain ⟨⟨h1, h2⟩, h3⟩ := hc
    have h2 := kbe h2; have h3 := kbe h3
    subst h2; subst h3
    split at hf
    · cases hlay : lay with
      | true =>
        rw [hlay] at hf
        subst hlay
        exact kr_getM hd (kIs_in h1) rfl (hn _ _ _ _ _ _ hf)
      | false => rw [hlay] at hf; exact hf.elim
    · exact hf.elim
  · cases hc
def s_gets : KF := fun a b c d z xs lay dd nx jp Q kc ks L st G I =>
  nx kc ks L ((3, 0, (a : Int)) :: st) G I
def c_gets : KH := fun j a b c d z w pc np i len =>
  match i with
  | .getstatic idx => Nat.blt a 3 && kIs w (Cond.fieldLink (kMy j).cls idx (kStN a).1 (kStN a).2 "[I") && Nat.beq len 3 && Nat.beq np (pc + 3)
  | _ => false
theorem ok_gets : KOk s_gets c_gets := by
  intro xs lay dd kc ks j pc np a b c d z w i len nx jp Q L st G I hd hc hf hn hj
  unfold c_gets at hc
  unfold s_gets at hf
  split at hc
  · simp only [Bool.and_eq_true] at hc
    obtain ⟨⟨⟨h0, h1⟩, h2⟩, h3⟩ := hc
    have h2 := kbe h2; have h3 := kbe h3
    subst h2; subst h3
    exact kr_gets hd (Nat.le_of_ble_eq_true h0) (kIs_in h1) (hn _ _ _ _ _ _ hf)
  · cases hc
def s_puti : KF := fun a b c d z xs lay dd nx jp Q kc ks L st G I =>
  match st with
  | (0, _, x) :: (t, _, y) :: st => bif Nat.beq t (10 + a) then nx kc ks L st G (kst I y b x) else False
  | _ => False
def c_puti : KH := fun j a b c d z w pc np i len =>
  match i with
  | .putfield idx => match kcl[a]? with
    | some q => Nat.blt b q.2.2 && kIs w (Cond.fieldLink (kMy j).cls idx (q.2.1 b).1 (q.2.1 b).2.1 (q.2.1 b).2.2.1) && (!(q.2.1 b).2.2.2 && decide (kTy a b = .int)) && Nat.beq len 3 && Nat.beq np (pc + 3)
    | none => false
  | _ => false
theorem ok_puti : KOk s_puti c_puti := by
  intro xs lay dd kc ks j pc np a b c d z w i len nx jp Q L st G I hd hc hf hn hj
  unfold c_puti at hc
  unfold s_puti at hf
  split at hc
  · split at hc
    · rename_i q hq
      simp only [Bool.and_eq_true] at hc
      obtain ⟨⟨⟨⟨h1, h2⟩, h3⟩, h4⟩, h5⟩ := hc
      have h1 := Nat.le_of_ble_eq_true h1
      have h2 := kIs_in h2
      have h4 := kbe h4; have h5 := kbe h5
      subst h4; subst h5
      simp only [Bool.and_eq_true, Bool.not_eq_true'] at h3
      split at hf
      · rename_i x t _ y st
        cases hb : Nat.beq t (10 + a) with
        | true =>
          rw [hb] at hf
          have hb := kbe hb
          subst hb
          exact kr_puti hd hq h1 h2 h3.1 (of_decide_eq_true h3.2) (hn _ _ _ _ _ _ hf)
        | false => rw [hb] at hf; exact hf.elim
      · exact hf.elim
    · cases hc
  · cases hc
def s_putz : KF := fun a b c d z xs lay dd nx jp Q kc ks L st G I =>
  match st with
  | (0, _, x) :: (t, _, y) :: st => bif Nat.beq t (10 + a) then kzr x (nx kc ks L st G (kst I y b x)) else False
  | _ => False
def c_putz : KH := fun j a b c d z w pc np i len =>
  match i with
  | .putfield idx => match kcl[a]? with
    | some q => Nat.blt b q.2.2 && kIs w (Cond.fieldLink (kMy j).cls idx (q.2.1 b).1 (q.2.1 b).2.1 (q.2.1 b).2.2.1) && (!(q.2.1 b).2.2.2 && decide (kTy a b = .boolean)) && Nat.beq len 3 && Nat.beq np (pc + 3)
    | none => false
  | _ => false
theorem ok_putz : KOk s_putz c_putz := by
  intro xs lay dd kc ks j pc np a b c d z w i len nx jp Q L st G I hd hc hf hn hj
  unfold c_putz at hc
  unfold s_putz at hf
  split at hc
  · split at hc
    · rename_i q hq
      simp only [Bool.and_eq_true] at hc
      obtain ⟨⟨⟨⟨h1, h2⟩, h3⟩, h4⟩, h5⟩ := hc
      have h1 := Nat.le_of_ble_eq_true h1
      have h2 := kIs_in h2
      have h4 := kbe h4; have h5 := kbe h5
      subst h4; subst h5
      simp only [Bool.and_eq_true, Bool.not_eq_true'] at h3
      split at hf
      · rename_i x t _ y st
        cases hb : Nat.beq t (10 + a) with
        | true =>
          rw [hb] at hf
          have hb := kbe hb
          subst hb
          exact kr_putz hd hq h1 h2 h3.1 (of_decide_eq_true h3.2) (kzr_of hf).1 (hn _ _ _ _ _ _ (kzr_of hf).2)
        | false => rw [hb] at hf; exact hf.elim
      · exact hf.elim
    · cases hc
  · cases hc
def kRef (t : FieldType) : Bool := match t with
  | .object _ => true
  | .array _ => true
  | _ => false
theorem kRef_of {t : FieldType} (h : kRef t = true) : (∃ C, t = .object C) ∨ ∃ u, t = .array u := by
  cases t <;> first | exact Or.inl ⟨_, rfl⟩ | exact Or.inr ⟨_, rfl⟩ | cases h
def s_putr : KF := fun a b c d z xs lay dd nx jp Q kc ks L st G I =>
  match st with
  | (s0, _, x) :: (t, _, y) :: st => bif Nat.beq t (10 + a) && Nat.beq s0 c then (bif lay then False else nx kc ks L st (kGr G y b x) I) else False
  | _ => False
def c_putr : KH := fun j a b c d z w pc np i len =>
  match i with
  | .putfield idx => match kcl[a]? with
    | some q => Nat.blt b q.2.2 && kIs w (Cond.fieldLink (kMy j).cls idx (q.2.1 b).1 (q.2.1 b).2.1 (q.2.1 b).2.2.1) && (Nat.beq (kFt a b) c && Nat.ble 4 c && kRef (kTy a b) && (!(q.2.1 b).2.2.2 || (Nat.beq (kMk j) 2 && decide ((q.2.1 b).1 = (kMy j).cls)))) && Nat.beq len 3 && Nat.beq np (pc + 3)
    | none => false
  | _ => false
theorem ok_putr : KOk s_putr c_putr := by
  intro xs lay dd kc ks j pc np a b c d z w i len nx jp Q L st G I hd hc hf hn hj
  unfold c_putr at hc
  unfold s_putr at hf
  split at hc
  · split at hc
    · rename_i q hq
      simp only [Bool.and_eq_true] at hc
      obtain ⟨⟨⟨⟨h1, h2⟩, h3⟩, h4⟩, h5⟩ := hc
      have h1 := Nat.le_of_ble_eq_true h1
      have h2 := kIs_in h2
      have h4 := kbe h4; have h5 := kbe h5
      subst h4; subst h5
      obtain ⟨⟨⟨h6, h7⟩, h8⟩, h9⟩ := h3
      split at hf
      · rename_i s0 l0 x t _ y st
        cases hb : (Nat.beq t (10 + a) && Nat.beq s0 c) with
        | true =>
          rw [hb] at hf
          simp only [Bool.and_eq_true] at hb
          have hb1 := kbe hb.1
          have hb2 := kbe hb.2
          subst hb1; subst hb2
          obtain ⟨u, rfl⟩ : ∃ u, s0 = u + 4 := ⟨s0 - 4, by have := Nat.le_of_ble_eq_true h7; omega⟩
          cases hlay : lay with
          | true => rw [hlay] at hf; exact hf.elim
          | false =>
            rw [hlay] at hf
            subst hlay
            cases hfin : (q.2.1 b).2.2.2 with
            | true =>
              rw [hfin] at h9
              simp only [Bool.not_true, Bool.false_or, Bool.and_eq_true] at h9
              exact kr_putF hd hq h1 h2 hfin (kbe h6) (kRef_of h8) rfl (kbe h9.1) (of_decide_eq_true h9.2) (hn _ _ _ _ _ _ hf)
            | false => exact kr_putM hd hq h1 h2 hfin (kbe h6) (kRef_of h8) rfl (hn _ _ _ _ _ _ hf)
        | false => rw [hb] at hf; exact hf.elim
      · exact hf.elim
    · cases hc
  · cases hc
def s_putt : KF := fun a b c d z xs lay dd nx jp Q kc ks L st G I =>
  match st with
  | (6, l0, x) :: (11, _, y) :: st => bif Nat.beq l0 120 then nx kc ks L st (kGr G y 2 x) I else False
  | _ => False
def c_putt : KH := fun j a b c d z w pc np i len =>
  match i with
  | .putfield idx => kIs w (Cond.fieldLink (kMy j).cls idx (TX1 2).1 (TX1 2).2.1 (TX1 2).2.2.1) && Nat.beq len 3 && Nat.beq np (pc + 3)
  | _ => false
theorem ok_putt : KOk s_putt c_putt := by
  intro xs lay dd kc ks j pc np a b c d z w i len nx jp Q L st G I hd hc hf hn hj
  unfold c_putt at hc
  unfold s_putt at hf
  split at hc
  · simp only [Bool.and_eq_true] at hc
    obtain ⟨⟨h1, h2⟩, h3⟩ := hc
    have h2 := kbe h2; have h3 := kbe h3
    subst h2; subst h3
    split at hf
    · rename_i l0 x _ y st
      cases hb : Nat.beq l0 120 with
      | true =>
        rw [hb] at hf
        exact kr_putT hd (kIs_in h1) (kbe hb) (hn _ _ _ _ _ _ hf)
      | false => rw [hb] at hf; exact hf.elim
    · exact hf.elim
  · cases hc
def s_new : KF := fun a b c d z xs lay dd nx jp Q kc ks L st G I =>
  bif lay then False else bif Nat.ble 1 kc && Nat.ble b ks then nx (kc - 1) (ks - b) L ((10 + a, 0, (G.1 : Int)) :: st) (kGn G (10 + a) b) (kIn0 G I) else False
def c_new : KH := fun j a b c d z w pc np i len =>
  match i with
  | .new idx => match kcl[a]? with
    | some q => kIs w (Cond.classLink (kMy j).cls idx q.1) && kIs c (Cond.instantiable q.1 q.2.2) && kIs d (Cond.initialized q.1) && Nat.beq q.2.2 b && Nat.beq len 3 && Nat.beq np (pc + 3)
    | none => false
  | _ => false
theorem ok_new : KOk s_new c_new := by
  intro xs lay dd kc ks j pc np a b c d z w i len nx jp Q L st G I hd hc hf hn hj
  unfold c_new at hc
  unfold s_new at hf
  split at hc
  · split at hc
    · rename_i q hq
      simp only [Bool.and_eq_true] at hc
      obtain ⟨⟨⟨⟨⟨h1, h2⟩, h3⟩, h6⟩, h4⟩, h5⟩ := hc
      have h4 := kbe h4; have h5 := kbe h5; have h6 := kbe h6
      subst h4; subst h5; subst h6
      cases hlay : lay with
      | true => rw [hlay] at hf; exact hf.elim
      | false =>
        rw [hlay] at hf
        subst hlay
        cases hb : (Nat.ble 1 kc && Nat.ble q.2.2 ks) with
        | true =>
          rw [hb] at hf
          simp only [Bool.and_eq_true] at hb
          have b1 := Nat.le_of_ble_eq_true hb.1
          have b2 := Nat.le_of_ble_eq_true hb.2
          obtain ⟨kc, rfl⟩ : ∃ n, kc = n + 1 := ⟨kc - 1, by omega⟩
          obtain ⟨ks, rfl⟩ : ∃ n, ks = n + q.2.2 := ⟨ks - q.2.2, by omega⟩
          refine kr_new hd rfl hq (kIs_in h1) (kIs_in h2) (kIs_in h3) (hn _ _ _ _ _ _ ?_)
          simpa using hf
        | false => rw [hb] at hf; exact hf.elim
    · cases hc
  · cases hc
def s_newa : KF := fun a b c d z xs lay dd nx jp Q kc ks L st G I =>
  match st with
  | (0, _, x) :: st => bif lay then False else bif Nat.ble 1 kc && Nat.ble b ks && Nat.blt b 60000 && decide (x = (b : Int)) then nx (kc - 1) (ks - b) L ((a, b, (G.1 : Int)) :: st) (kGn G a b) (kIn0 G I) else False
  | _ => False
def c_newa : KH := fun j a b c d z w pc np i len =>
  match i with
  | .newarray ty => decide (newarray.typeOf ty = kAty a) && Nat.ble 4 a && Nat.ble a 7 && kIs w (Cond.arrayClass (kAty a)) && Nat.beq len 2 && Nat.beq np (pc + 2)
  | _ => false
theorem ok_newa : KOk s_newa c_newa := by
  intro xs lay dd kc ks j pc np a b c d z w i len nx jp Q L st G I hd hc hf hn hj
  unfold c_newa at hc
  unfold s_newa at hf
  split at hc
  · simp only [Bool.and_eq_true] at hc
    obtain ⟨⟨⟨⟨⟨h1, h6⟩, h7⟩, h4⟩, h2⟩, h3⟩ := hc
    have h2 := kbe h2; have h3 := kbe h3
    subst h2; subst h3
    split at hf
    · rename_i n2 x st
      cases hlay : lay with
      | true => rw [hlay] at hf; exact hf.elim
      | false =>
        rw [hlay] at hf
        subst hlay
        cases hb : (Nat.ble 1 kc && Nat.ble b ks && Nat.blt b 60000 && decide (x = (b : Int))) with
        | true =>
          rw [hb] at hf
          simp only [Bool.and_eq_true] at hb
          obtain ⟨⟨⟨b1, b2⟩, b3⟩, b4⟩ := hb
          have b1 := Nat.le_of_ble_eq_true b1
          have b2 := Nat.le_of_ble_eq_true b2
          have b4 := of_decide_eq_true b4
          subst b4
          obtain ⟨kc, rfl⟩ : ∃ n, kc = n + 1 := ⟨kc - 1, by omega⟩
          obtain ⟨ks, rfl⟩ : ∃ n, ks = n + b := ⟨ks - b, by omega⟩
          refine kr_newa hd rfl ⟨Nat.le_of_ble_eq_true h6, Nat.le_of_ble_eq_true h7⟩ (of_decide_eq_true h1) (Nat.le_of_ble_eq_true b3) (kIs_in h4) (hn _ _ _ _ _ _ ?_)
          simpa using hf
        | false => rw [hb] at hf; exact hf.elim
    · exact hf.elim
  · cases hc
def s_anewa : KF := fun a b c d z xs lay dd nx jp Q kc ks L st G I =>
  match st with
  | (0, _, x) :: st => bif lay then False else bif Nat.ble 1 kc && Nat.ble b ks && Nat.blt b 60000 && decide (x = (b : Int)) then nx (kc - 1) (ks - b) L ((a, b, (G.1 : Int)) :: st) (kGn G a b) (kIn0 G I) else False
  | _ => False
def c_anewa : KH := fun j a b c d z w pc np i len =>
  match i with
  | .anewarray idx => kIs w (Cond.classLink (kMy j).cls idx (bif Nat.beq a 8 then RX3 else RX5)) && (Nat.beq a 8 || Nat.beq a 9) && Nat.beq len 3 && Nat.beq np (pc + 3)
  | _ => false
theorem ok_anewa : KOk s_anewa c_anewa := by
  intro xs lay dd kc ks j pc np a b c d z w i len nx jp Q L st G I hd hc hf hn hj
  unfold c_anewa at hc
  unfold s_anewa at hf
  split at hc
  · simp only [Bool.and_eq_true] at hc
    obtain ⟨⟨⟨h1, h6⟩, h2⟩, h3⟩ := hc
    have h2 := kbe h2; have h3 := kbe h3
    subst h2; subst h3
    split at hf
    · rename_i n2 x st
      cases hlay : lay with
      | true => rw [hlay] at hf; exact hf.elim
      | false =>
        rw [hlay] at hf
        subst hlay
        cases hb : (Nat.ble 1 kc && Nat.ble b ks && Nat.blt b 60000 && decide (x = (b : Int))) with
        | true =>
          rw [hb] at hf
          simp only [Bool.and_eq_true] at hb
          obtain ⟨⟨⟨b1, b2⟩, b3⟩, b4⟩ := hb
          have b1 := Nat.le_of_ble_eq_true b1
          have b2 := Nat.le_of_ble_eq_true b2
          have b4 := of_decide_eq_true b4
          subst b4
          obtain ⟨kc, rfl⟩ : ∃ n, kc = n + 1 := ⟨kc - 1, by omega⟩
          obtain ⟨ks, rfl⟩ : ∃ n, ks = n + b := ⟨ks - b, by omega⟩
          have h8 : (a = 8 ∧ (bif Nat.beq a 8 then RX3 else RX5) = RX3) ∨ (a = 9 ∧ (bif Nat.beq a 8 then RX3 else RX5) = RX5) := by
            rw [Bool.or_eq_true] at h6
            rcases h6 with g | g
            · have := kbe g; subst this; exact Or.inl ⟨rfl, rfl⟩
            · have := kbe g; subst this; exact Or.inr ⟨rfl, rfl⟩
          refine kr_anewa hd rfl h8 (Nat.le_of_ble_eq_true b3) (kIs_in h1) (hn _ _ _ _ _ _ ?_)
          simpa using hf
        | false => rw [hb] at hf; exact hf.elim
    · exact hf.elim
  · cases hc
def s_objinit : KF := fun a b c d z xs lay dd nx jp Q kc ks L st G I =>
  match st with
  | (t, _, _) :: st => bif Nat.ble 4 t && Nat.ble st.length 4 then nx kc ks L st G I else False
  | _ => False
def c_objinit : KH := fun j a b c d z w pc np i len =>
  match i with
  | .invokespecial idx => kIs w (Cond.methodLink (kMy j).cls idx Lib.objectInit) && kIs a (Cond.instanceMethod Lib.objectInit) && kIs b (Cond.code Lib.objectInit ⟨#[0xb1]⟩ 1 none) && Nat.beq len 3 && Nat.beq np (pc + 3)
  | _ => false
theorem ok_objinit : KOk s_objinit c_objinit := by
  intro xs lay dd kc ks j pc np a b c d z w i len nx jp Q L st G I hd hc hf hn hj
  unfold c_objinit at hc
  unfold s_objinit at hf
  split at hc
  · simp only [Bool.and_eq_true] at hc
    obtain ⟨⟨⟨⟨h1, h4⟩, h5⟩, h2⟩, h3⟩ := hc
    have h2 := kbe h2; have h3 := kbe h3
    subst h2; subst h3
    split at hf
    · rename_i t n x st
      cases hb : (Nat.ble 4 t && Nat.ble st.length 4) with
      | true =>
        rw [hb] at hf
        simp only [Bool.and_eq_true] at hb
        have b1 := Nat.le_of_ble_eq_true hb.1
        obtain ⟨u, rfl⟩ : ∃ u, t = u + 4 := ⟨t - 4, by omega⟩
        exact kr_objinit hd (Nat.le_of_ble_eq_true hb.2) (kIs_in h1) (kIs_in h4) (kIs_in h5) (hn _ _ _ _ _ _ hf)
      | false => rw [hb] at hf; exact hf.elim
    · exact hf.elim
  · cases hc
def krn (d : Nat) : Nat := bif Nat.beq d 4 then 43 else 0
def kAok (j d : Nat) : Bool := Nat.beq (kRt j) d && (match kMr j with
  | none => Nat.beq d 2
  | some (.array _) => Nat.beq d 4
  | some _ => !(Nat.beq d 4) && !(Nat.beq d 2))
theorem kAok_of {j d : Nat} {x : Int} (h : kAok j d = true) : koutl j x = (bif Nat.beq d 2 then [] else [(d, krn d, x)]) := by
  unfold kAok at h
  rw [Bool.and_eq_true] at h
  obtain ⟨h1, h2⟩ := h
  have h1 := kbe h1
  unfold koutl
  have fin : ∀ t, kMr j = some t → kRn j = 0 → (!(Nat.beq d 4) && !(Nat.beq d 2)) = true → [(kRt j, kRn j, x)] = (bif Nat.beq d 2 then ([] : List KV) else [(d, krn d, x)]) := by
    intro t ht hn h5
    cases hb4 : Nat.beq d 4 with
    | true => rw [hb4] at h5; simp at h5
    | false =>
      cases hb2 : Nat.beq d 2 with
      | true => rw [hb2] at h5; simp at h5
      | false =>
        rw [h1, hn]
        unfold krn
        rw [hb4]; rfl
  cases hr : kMr j with
  | none =>
    rw [hr] at h2
    have h2 := kbe h2
    subst h2; rfl
  | some t =>
    rw [hr] at h2
    cases t with
    | array u =>
      have h2 := kbe h2
      subst h2
      have hn : kRn j = 43 := by unfold kRn; rw [hr]
      show [(kRt j, kRn j, x)] = _
      rw [h1, hn]; rfl
    | _ => exact fin _ hr (by unfold kRn; rw [hr]) h2
def s_inv : KF := fun a b c d z xs lay dd nx jp Q kc ks L st G I =>
  match dd with
  | 0 => False
  | d0 + 1 => match kpop b st [] with
    | (as, rest) => match as with
      | (t, nn, v) :: As => bif Nat.beq t (10 + c) then (bif Nat.ble b st.length && decide ((kwords ((t, nn, v) :: As) : Int) ≤ z) && Nat.ble rest.length 4 then kWP xs lay d0 0 0 a 0 (kargs 0 ((t, nn, v) :: As)) [] G I (fun x G' I' => nx kc ks L ((bif Nat.beq d 2 then [] else [(d, krn d, x)]) ++ rest) G' I') else False) else False
      | [] => False
def c_inv : KH := fun j a b c d z w pc np i len =>
  match i with
  | .invokevirtual idx => kOkM a && decide ((kMl a : Int) = z) && Nat.beq b (kMn a + 1) && Nat.beq (kMk a) 1 && kIs w (Cond.methodLink (kMy j).cls idx (kMy a)) && decide ((kcl[c]?).map (fun q => q.1) = some (kMy a).cls) && kAok a d && Nat.beq len 3 && Nat.beq np (pc + 3)
  | _ => false
theorem ok_inv : KOk s_inv c_inv := by
  intro xs lay dd kc ks j pc np a b c d z w i len nx jp Q L st G I hd hc hf hn hj
  unfold c_inv at hc
  unfold s_inv at hf
  split at hc
  · simp only [Bool.and_eq_true] at hc
    obtain ⟨⟨⟨⟨⟨⟨⟨⟨g0, g1⟩, g2⟩, g3⟩, g4⟩, g5⟩, g6⟩, gl⟩, gn⟩ := hc
    have gl := kbe gl; have gn := kbe gn; have g2 := kbe g2; have g3 := kbe g3
    subst gl; subst gn
    split at hf
    · exact hf.elim
    · rename_i d0
      split at hf
      rename_i as rest hpop
      split at hf
      · rename_i t nn v As
        cases ht : Nat.beq t (10 + c) with
        | true =>
          rw [ht] at hf
          have ht := kbe ht
          subst ht
          cases hb : (Nat.ble b st.length && decide ((kwords ((10 + c, nn, v) :: As) : Int) ≤ z) && Nat.ble rest.length 4) with
          | true =>
            rw [hb] at hf
            simp only [Bool.and_eq_true] at hb
            obtain ⟨⟨b1, b2⟩, b3⟩ := hb
            have b2 := of_decide_eq_true b2
            have hcall : kCall a b st ((10 + c, nn, v) :: As) rest := ⟨g0, Nat.le_of_ble_eq_true b1, hpop, by have e := of_decide_eq_true g1; omega, Nat.le_of_ble_eq_true b3⟩
            have hf2 := kWP.imp hf (fun x G' I' hq => by
              have hq2 := hn _ _ _ _ _ _ hq
              rw [← kAok_of g6] at hq2
              exact hq2)
            have h9 := kr_inv (kc2 := 0) (ks2 := 0) hd hcall rfl (of_decide_eq_true g5) g3 g2 (kIs_in g4) hf2
            rw [Nat.zero_add, Nat.zero_add] at h9
            exact h9
          | false => rw [hb] at hf; exact hf.elim
        | false => rw [ht] at hf; exact hf.elim
      · exact hf.elim
  · cases hc
def s_invS : KF := fun a b c d z xs lay dd nx jp Q kc ks L st G I =>
  match dd with
  | 0 => False
  | d0 + 1 => match kpop b st [] with
    | (as, rest) => bif Nat.ble b st.length && decide ((kwords as : Int) ≤ z) && Nat.ble rest.length 4 then kWP xs lay d0 0 0 a 0 (kargs 0 as) [] G I (fun x G' I' => nx kc ks L ((bif Nat.beq d 2 then [] else [(d, krn d, x)]) ++ rest) G' I') else False
def c_invS : KH := fun j a b c d z w pc np i len =>
  match i with
  | .invokestatic idx => kOkM a && decide ((kMl a : Int) = z) && Nat.beq b (kMn a) && Nat.beq (kMk a) 0 && kIs w (Cond.methodLink (kMy j).cls idx (kMy a)) && kAok a d && Nat.beq len 3 && Nat.beq np (pc + 3)
  | _ => false
theorem ok_invS : KOk s_invS c_invS := by
  intro xs lay dd kc ks j pc np a b c d z w i len nx jp Q L st G I hd hc hf hn hj
  unfold c_invS at hc
  unfold s_invS at hf
  split at hc
  · simp only [Bool.and_eq_true] at hc
    obtain ⟨⟨⟨⟨⟨⟨⟨g0, g1⟩, g2⟩, g3⟩, g4⟩, g6⟩, gl⟩, gn⟩ := hc
    have gl := kbe gl; have gn := kbe gn; have g2 := kbe g2; have g3 := kbe g3
    subst gl; subst gn
    split at hf
    · exact hf.elim
    · rename_i d0
      split at hf
      rename_i as rest hpop
      cases hb : (Nat.ble b st.length && decide ((kwords as : Int) ≤ z) && Nat.ble rest.length 4) with
      | true =>
        rw [hb] at hf
        simp only [Bool.and_eq_true] at hb
        obtain ⟨⟨b1, b2⟩, b3⟩ := hb
        have b2 := of_decide_eq_true b2
        have hcall : kCall a b st as rest := ⟨g0, Nat.le_of_ble_eq_true b1, hpop, by have e := of_decide_eq_true g1; omega, Nat.le_of_ble_eq_true b3⟩
        have hf2 := kWP.imp hf (fun x G' I' hq => by
          have hq2 := hn _ _ _ _ _ _ hq
          rw [← kAok_of g6] at hq2
          exact hq2)
        have h9 := kr_invS (kc2 := 0) (ks2 := 0) hd hcall g3 g2 (kIs_in g4) hf2
        rw [Nat.zero_add, Nat.zero_add] at h9
        exact h9
      | false => rw [hb] at hf; exact hf.elim
  · cases hc
def s_invSN : KF := fun a b c d z xs lay dd nx jp Q kc ks L st G I =>
  match dd with
  | 0 => False
  | d0 + 1 => match kpop b st [] with
    | (as, rest) => bif Nat.ble b st.length && decide ((kwords as : Int) ≤ z) && Nat.ble rest.length 4 then kWP xs lay d0 0 0 a 0 (kargs 0 as) [] G I (fun x G' I' => nx kc ks L ((bif Nat.beq d 2 then [] else [(d, krn d, x)]) ++ rest) G' I') else False
def c_invSN : KH := fun j a b c d z w pc np i len =>
  match i with
  | .invokestatic idx => kOkM a && decide ((kMl a : Int) = z) && Nat.beq b (kMn a) && Nat.beq (kMk a) 0 && decide (kWd w = some (Cond.methodLinkNest (kMy j).cls idx (kMy a) "CordPocket")) && kAok a d && Nat.beq len 3 && Nat.beq np (pc + 3)
  | _ => false
theorem ok_invSN : KOk s_invSN c_invSN := by
  intro xs lay dd kc ks j pc np a b c d z w i len nx jp Q L st G I hd hc hf hn hj
  unfold c_invSN at hc
  unfold s_invSN at hf
  split at hc
  · simp only [Bool.and_eq_true] at hc
    obtain ⟨⟨⟨⟨⟨⟨⟨g0, g1⟩, g2⟩, g3⟩, g4⟩, g6⟩, gl⟩, gn⟩ := hc
    have gl := kbe gl; have gn := kbe gn; have g2 := kbe g2; have g3 := kbe g3
    subst gl; subst gn
    split at hf
    · exact hf.elim
    · rename_i d0
      split at hf
      rename_i as rest hpop
      cases hb : (Nat.ble b st.length && decide ((kwords as : Int) ≤ z) && Nat.ble rest.length 4) with
      | true =>
        rw [hb] at hf
        simp only [Bool.and_eq_true] at hb
        obtain ⟨⟨b1, b2⟩, b3⟩ := hb
        have b2 := of_decide_eq_true b2
        have hcall : kCall a b st as rest := ⟨g0, Nat.le_of_ble_eq_true b1, hpop, by have e := of_decide_eq_true g1; omega, Nat.le_of_ble_eq_true b3⟩
        have hf2 := kWP.imp hf (fun x G' I' hq => by
          have hq2 := hn _ _ _ _ _ _ hq
          rw [← kAok_of g6] at hq2
          exact hq2)
        have h9 := kr_invSN (kc2 := 0) (ks2 := 0) hd hcall g3 g2 (kIsN_in g4) hf2
        rw [Nat.zero_add, Nat.zero_add] at h9
        exact h9
      | false => rw [hb] at hf; exact hf.elim
  · cases hc
def s_invI : KF := fun a b c d z xs lay dd nx jp Q kc ks L st G I =>
  match dd with
  | 0 => False
  | d0 + 1 => match kpop b st [] with
    | (as, rest) => match as with
      | (t, nn, v) :: As => bif Nat.ble 4 t then (bif Nat.ble b st.length && decide ((kwords ((t, nn, v) :: As) : Int) ≤ z) && Nat.ble rest.length 4 && Nat.ble c kc && Nat.ble d ks then kWP xs lay d0 c d a 0 (kargs 0 ((t, nn, v) :: As)) [] G I (fun x G' I' => nx (kc - c) (ks - d) L rest G' I') else False) else False
      | [] => False
def c_invI : KH := fun j a b c d z w pc np i len =>
  match i with
  | .invokespecial idx => kOkM a && decide ((kMl a : Int) = z) && Nat.beq b (kMn a + 1) && Nat.beq (kMk a) 2 && kIs w (Cond.methodLink (kMy j).cls idx (kMy a)) && Nat.beq len 3 && Nat.beq np (pc + 3)
  | _ => false
theorem ok_invI : KOk s_invI c_invI := by
  intro xs lay dd kc ks j pc np a b c d z w i len nx jp Q L st G I hd hc hf hn hj
  unfold c_invI at hc
  unfold s_invI at hf
  split at hc
  · simp only [Bool.and_eq_true] at hc
    obtain ⟨⟨⟨⟨⟨⟨g0, g1⟩, g2⟩, g3⟩, g4⟩, gl⟩, gn⟩ := hc
    have gl := kbe gl; have gn := kbe gn; have g2 := kbe g2; have g3 := kbe g3
    subst gl; subst gn
    split at hf
    · exact hf.elim
    · rename_i d0
      split at hf
      rename_i as rest hpop
      split at hf
      · rename_i t nn v As
        cases ht : Nat.ble 4 t with
        | true =>
          rw [ht] at hf
          have ht := Nat.le_of_ble_eq_true ht
          obtain ⟨u, rfl⟩ : ∃ u, t = u + 4 := ⟨t - 4, by omega⟩
          cases hb : (Nat.ble b st.length && decide ((kwords ((u + 4, nn, v) :: As) : Int) ≤ z) && Nat.ble rest.length 4 && Nat.ble c kc && Nat.ble d ks) with
          | true =>
            rw [hb] at hf
            simp only [Bool.and_eq_true] at hb
            obtain ⟨⟨⟨⟨b1, b2⟩, b3⟩, b4⟩, b5⟩ := hb
            have b2 := of_decide_eq_true b2
            have b4 := Nat.le_of_ble_eq_true b4
            have b5 := Nat.le_of_ble_eq_true b5
            have hcall : kCall a b st ((u + 4, nn, v) :: As) rest := ⟨g0, Nat.le_of_ble_eq_true b1, hpop, by have e := of_decide_eq_true g1; omega, Nat.le_of_ble_eq_true b3⟩
            have hr0 : ∀ x, koutl a x = [] := fun x => by unfold koutl; rw [((kOkM_of g0).2.2.2.2.2.2.2.2.2 g3).2.2]
            have hf2 := kWP.imp hf (fun x G' I' hq => by
              have hq2 := hn _ _ _ _ _ _ hq
              rw [← List.nil_append rest, ← hr0 x] at hq2
              exact hq2)
            have h9 := kr_invI hd hcall rfl g3 g2 (kIs_in g4) hf2
            rw [show c + (kc - c) = kc by omega, show d + (ks - d) = ks by omega] at h9
            exact h9
          | false => rw [hb] at hf; exact hf.elim
        | false => rw [ht] at hf; exact hf.elim
      · exact hf.elim
  · cases hc
def s_invIN : KF := fun a b c d z xs lay dd nx jp Q kc ks L st G I =>
  match dd with
  | 0 => False
  | d0 + 1 => match kpop b st [] with
    | (as, rest) => match as with
      | (t, nn, v) :: As => bif Nat.ble 4 t then (bif Nat.ble b st.length && decide ((kwords ((t, nn, v) :: As) : Int) ≤ z) && Nat.ble rest.length 4 && Nat.ble c kc && Nat.ble d ks then kWP xs lay d0 c d a 0 (kargs 0 ((t, nn, v) :: As)) [] G I (fun x G' I' => nx (kc - c) (ks - d) L rest G' I') else False) else False
      | [] => False
def c_invIN : KH := fun j a b c d z w pc np i len =>
  match i with
  | .invokespecial idx => kOkM a && decide ((kMl a : Int) = z) && Nat.beq b (kMn a + 1) && Nat.beq (kMk a) 2 && decide (kWd w = some (Cond.methodLinkNest (kMy j).cls idx (kMy a) "CordPocket")) && Nat.beq len 3 && Nat.beq np (pc + 3)
  | _ => false
theorem ok_invIN : KOk s_invIN c_invIN := by
  intro xs lay dd kc ks j pc np a b c d z w i len nx jp Q L st G I hd hc hf hn hj
  unfold c_invIN at hc
  unfold s_invIN at hf
  split at hc
  · simp only [Bool.and_eq_true] at hc
    obtain ⟨⟨⟨⟨⟨⟨g0, g1⟩, g2⟩, g3⟩, g4⟩, gl⟩, gn⟩ := hc
    have gl := kbe gl; have gn := kbe gn; have g2 := kbe g2; have g3 := kbe g3
    subst gl; subst gn
    split at hf
    · exact hf.elim
    · rename_i d0
      split at hf
      rename_i as rest hpop
      split at hf
      · rename_i t nn v As
        cases ht : Nat.ble 4 t with
        | true =>
          rw [ht] at hf
          have ht := Nat.le_of_ble_eq_true ht
          obtain ⟨u, rfl⟩ : ∃ u, t = u + 4 := ⟨t - 4, by omega⟩
          cases hb : (Nat.ble b st.length && decide ((kwords ((u + 4, nn, v) :: As) : Int) ≤ z) && Nat.ble rest.length 4 && Nat.ble c kc && Nat.ble d ks) with
          | true =>
            rw [hb] at hf
            simp only [Bool.and_eq_true] at hb
            obtain ⟨⟨⟨⟨b1, b2⟩, b3⟩, b4⟩, b5⟩ := hb
            have b2 := of_decide_eq_true b2
            have b4 := Nat.le_of_ble_eq_true b4
            have b5 := Nat.le_of_ble_eq_true b5
            have hcall : kCall a b st ((u + 4, nn, v) :: As) rest := ⟨g0, Nat.le_of_ble_eq_true b1, hpop, by have e := of_decide_eq_true g1; omega, Nat.le_of_ble_eq_true b3⟩
            have hr0 : ∀ x, koutl a x = [] := fun x => by unfold koutl; rw [((kOkM_of g0).2.2.2.2.2.2.2.2.2 g3).2.2]
            have hf2 := kWP.imp hf (fun x G' I' hq => by
              have hq2 := hn _ _ _ _ _ _ hq
              rw [← List.nil_append rest, ← hr0 x] at hq2
              exact hq2)
            have h9 := kr_invIN hd hcall rfl g3 g2 (kIsN_in g4) hf2
            rw [show c + (kc - c) = kc by omega, show d + (ks - d) = ks by omega] at h9
            exact h9
          | false => rw [hb] at hf; exact hf.elim
        | false => rw [ht] at hf; exact hf.elim
      · exact hf.elim
  · cases hc
def s_copy : KF := fun a b c d z xs lay dd nx jp Q kc ks L st G I =>
  match st with
  | (0, _, n) :: (0, _, dp) :: (4, w2, q2) :: (0, _, sp) :: (4, w1, q1) :: st => (0 ≤ sp ∧ 0 ≤ dp ∧ 0 ≤ n ∧ sp + n ≤ (w1 : Int) ∧ dp + n ≤ (w2 : Int)) ∧ (bif Nat.ble st.length 4 then nx kc ks L st G (kcpy I q1 sp q2 dp n) else False)
  | (0, _, n) :: (0, _, dp) :: (6, w2, q2) :: (0, _, sp) :: (6, w1, q1) :: st => (0 ≤ sp ∧ 0 ≤ dp ∧ 0 ≤ n ∧ sp + n ≤ (w1 : Int) ∧ dp + n ≤ (w2 : Int)) ∧ (bif Nat.ble st.length 4 then nx kc ks L st G (kcpy I q1 sp q2 dp n) else False)
  | (0, _, n) :: (0, _, dp) :: (5, w2, q2) :: (0, _, sp) :: (5, w1, q1) :: st => (0 ≤ sp ∧ 0 ≤ dp ∧ 0 ≤ n ∧ sp + n ≤ (w1 : Int) ∧ dp + n ≤ (w2 : Int)) ∧ (bif Nat.ble st.length 4 then nx kc ks L st G (kcpy I q1 sp q2 dp n) else False)
  | _ => False
def c_copy : KH := fun j a b c d z w pc np i len =>
  match i with
  | .invokestatic idx => kIs w (Cond.methodLink (kMy j).cls idx arraycopyName) && kIs a (Cond.native arraycopyName) && kIs b (Cond.static arraycopyName) && kIs c (Cond.initialized "java/lang/System") && Nat.beq len 3 && Nat.beq np (pc + 3)
  | _ => false
theorem ok_copy : KOk s_copy c_copy := by
  intro xs lay dd kc ks j pc np a b c d z w i len nx jp Q L st G I hd hc hf hn hj
  unfold c_copy at hc
  unfold s_copy at hf
  split at hc
  · simp only [Bool.and_eq_true] at hc
    obtain ⟨⟨⟨⟨⟨g1, g2⟩, g3⟩, g4⟩, h2⟩, h3⟩ := hc
    have h2 := kbe h2; have h3 := kbe h3
    subst h2; subst h3
    split at hf
    · rename_i st
      obtain ⟨⟨f0, f1, f2, f3, f4⟩, hf⟩ := hf
      cases hb : Nat.ble st.length 4 with
      | true => rw [hb] at hf; exact kr_copyi hd f0 f1 f2 f3 f4 (Nat.le_of_ble_eq_true hb) (kIs_in g1) (kIs_in g2) (kIs_in g3) (kIs_in g4) (hn _ _ _ _ _ _ hf)
      | false => rw [hb] at hf; exact hf.elim
    · rename_i st
      obtain ⟨⟨f0, f1, f2, f3, f4⟩, hf⟩ := hf
      cases hb : Nat.ble st.length 4 with
      | true => rw [hb] at hf; exact kr_copyb hd f0 f1 f2 f3 f4 (Nat.le_of_ble_eq_true hb) (kIs_in g1) (kIs_in g2) (kIs_in g3) (kIs_in g4) (hn _ _ _ _ _ _ hf)
      | false => rw [hb] at hf; exact hf.elim
    · rename_i st
      obtain ⟨⟨f0, f1, f2, f3, f4⟩, hf⟩ := hf
      cases hb : Nat.ble st.length 4 with
      | true => rw [hb] at hf; exact kr_copyl hd f0 f1 f2 f3 f4 (Nat.le_of_ble_eq_true hb) (kIs_in g1) (kIs_in g2) (kIs_in g3) (kIs_in g4) (hn _ _ _ _ _ _ hf)
      | false => rw [hb] at hf; exact hf.elim
    · exact hf.elim
  · cases hc
def s_mmax : KF := fun a b c d z xs lay dd nx jp Q kc ks L st G I =>
  match st with
  | (0, _, y) :: (0, _, x) :: st => bif Nat.ble st.length 4 then nx kc ks L ((0, 0, if x < y then y else x) :: st) G I else False
  | _ => False
def c_mmax : KH := fun j a b c d z w pc np i len =>
  match i with
  | .invokestatic idx => kIs w (Cond.methodLink (kMy j).cls idx Lib.Math.max.name) && kIs a (Cond.static Lib.Math.max.name) && kIs b (Cond.initialized "java/lang/Math") && kIs c (Cond.code Lib.Math.max.name Lib.Math.max.code 2 (some .int)) && Nat.beq len 3 && Nat.beq np (pc + 3)
  | _ => false
theorem ok_mmax : KOk s_mmax c_mmax := by
  intro xs lay dd kc ks j pc np a b c d z w i len nx jp Q L st G I hd hc hf hn hj
  unfold c_mmax at hc
  unfold s_mmax at hf
  split at hc
  · simp only [Bool.and_eq_true] at hc
    obtain ⟨⟨⟨⟨⟨g1, g2⟩, g3⟩, g4⟩, h2⟩, h3⟩ := hc
    have h2 := kbe h2; have h3 := kbe h3
    subst h2; subst h3
    split at hf
    · rename_i st
      cases hb : Nat.ble st.length 4 with
      | true => rw [hb] at hf; exact kr_mmax hd (Nat.le_of_ble_eq_true hb) (kIs_in g1) (kIs_in g2) (kIs_in g3) (kIs_in g4) (hn _ _ _ _ _ _ hf)
      | false => rw [hb] at hf; exact hf.elim
    · exact hf.elim
  · cases hc
def s_mmin : KF := fun a b c d z xs lay dd nx jp Q kc ks L st G I =>
  match st with
  | (0, _, y) :: (0, _, x) :: st => bif Nat.ble st.length 4 then nx kc ks L ((0, 0, if y < x then y else x) :: st) G I else False
  | _ => False
def c_mmin : KH := fun j a b c d z w pc np i len =>
  match i with
  | .invokestatic idx => kIs w (Cond.methodLink (kMy j).cls idx Lib.Math.min.name) && kIs a (Cond.static Lib.Math.min.name) && kIs b (Cond.initialized "java/lang/Math") && kIs c (Cond.code Lib.Math.min.name Lib.Math.min.code 2 (some .int)) && Nat.beq len 3 && Nat.beq np (pc + 3)
  | _ => false
theorem ok_mmin : KOk s_mmin c_mmin := by
  intro xs lay dd kc ks j pc np a b c d z w i len nx jp Q L st G I hd hc hf hn hj
  unfold c_mmin at hc
  unfold s_mmin at hf
  split at hc
  · simp only [Bool.and_eq_true] at hc
    obtain ⟨⟨⟨⟨⟨g1, g2⟩, g3⟩, g4⟩, h2⟩, h3⟩ := hc
    have h2 := kbe h2; have h3 := kbe h3
    subst h2; subst h3
    split at hf
    · rename_i st
      cases hb : Nat.ble st.length 4 with
      | true => rw [hb] at hf; exact kr_mmin hd (Nat.le_of_ble_eq_true hb) (kIs_in g1) (kIs_in g2) (kIs_in g3) (kIs_in g4) (hn _ _ _ _ _ _ hf)
      | false => rw [hb] at hf; exact hf.elim
    · exact hf.elim
  · cases hc
def s_mabs : KF := fun a b c d z xs lay dd nx jp Q kc ks L st G I =>
  match st with
  | (0, _, x) :: st => bif Nat.ble st.length 4 then nx kc ks L ((0, 0, w32 (if 0 ≤ x then x else 0 - x)) :: st) G I else False
  | _ => False
def c_mabs : KH := fun j a b c d z w pc np i len =>
  match i with
  | .invokestatic idx => kIs w (Cond.methodLink (kMy j).cls idx Lib.Math.abs.name) && kIs a (Cond.static Lib.Math.abs.name) && kIs b (Cond.initialized "java/lang/Math") && kIs c (Cond.code Lib.Math.abs.name Lib.Math.abs.code 1 (some .int)) && Nat.beq len 3 && Nat.beq np (pc + 3)
  | _ => false
theorem ok_mabs : KOk s_mabs c_mabs := by
  intro xs lay dd kc ks j pc np a b c d z w i len nx jp Q L st G I hd hc hf hn hj
  unfold c_mabs at hc
  unfold s_mabs at hf
  split at hc
  · simp only [Bool.and_eq_true] at hc
    obtain ⟨⟨⟨⟨⟨g1, g2⟩, g3⟩, g4⟩, h2⟩, h3⟩ := hc
    have h2 := kbe h2; have h3 := kbe h3
    subst h2; subst h3
    split at hf
    · rename_i st
      cases hb : Nat.ble st.length 4 with
      | true => rw [hb] at hf; exact kr_mabs hd (Nat.le_of_ble_eq_true hb) (kIs_in g1) (kIs_in g2) (kIs_in g3) (kIs_in g4) (hn _ _ _ _ _ _ hf)
      | false => rw [hb] at hf; exact hf.elim
    · exact hf.elim
  · cases hc
def s_iret : KF := fun a b c d z xs lay dd nx jp Q kc ks L st G I =>
  match st with
  | [(0, _, x)] => bif Nat.beq kc 0 && Nat.beq ks 0 then Q x G I else False
  | _ => False
def c_iret : KH := fun j a b c d z w pc np i len =>
  match i with
  | .ireturn => decide (kMr j = some .int) && Nat.beq len 1
  | _ => false
theorem ok_iret : KOk s_iret c_iret := by
  intro xs lay dd kc ks j pc np a b c d z w i len nx jp Q L st G I hd hc hf hn hj
  unfold c_iret at hc
  unfold s_iret at hf
  split at hc
  · simp only [Bool.and_eq_true] at hc
    obtain ⟨g1, h2⟩ := hc
    have h2 := kbe h2
    subst h2
    split at hf
    · cases hb : (Nat.beq kc 0 && Nat.beq ks 0) with
      | true =>
        rw [hb] at hf
        simp only [Bool.and_eq_true] at hb
        have b1 := kbe hb.1
        have b2 := kbe hb.2
        subst b1; subst b2
        exact kr_iret (st := []) (kc := 0) (ks := 0) hd (of_decide_eq_true g1) hf
      | false => rw [hb] at hf; exact hf.elim
    · exact hf.elim
  · cases hc
def s_zret : KF := fun a b c d z xs lay dd nx jp Q kc ks L st G I =>
  match st with
  | [(0, _, x)] => bif Nat.beq kc 0 && Nat.beq ks 0 then kzr x (Q x G I) else False
  | _ => False
def c_zret : KH := fun j a b c d z w pc np i len =>
  match i with
  | .ireturn => decide (kMr j = some .boolean) && Nat.beq len 1
  | _ => false
theorem ok_zret : KOk s_zret c_zret := by
  intro xs lay dd kc ks j pc np a b c d z w i len nx jp Q L st G I hd hc hf hn hj
  unfold c_zret at hc
  unfold s_zret at hf
  split at hc
  · simp only [Bool.and_eq_true] at hc
    obtain ⟨g1, h2⟩ := hc
    have h2 := kbe h2
    subst h2
    split at hf
    · cases hb : (Nat.beq kc 0 && Nat.beq ks 0) with
      | true =>
        rw [hb] at hf
        simp only [Bool.and_eq_true] at hb
        have b1 := kbe hb.1
        have b2 := kbe hb.2
        subst b1; subst b2
        exact kr_zret (st := []) (kc := 0) (ks := 0) hd (of_decide_eq_true g1) (kzr_of hf).1 (kzr_of hf).2
      | false => rw [hb] at hf; exact hf.elim
    · exact hf.elim
  · cases hc
def s_lret : KF := fun a b c d z xs lay dd nx jp Q kc ks L st G I =>
  match st with
  | [(1, _, x)] => bif Nat.beq kc 0 && Nat.beq ks 0 then Q x G I else False
  | _ => False
def c_lret : KH := fun j a b c d z w pc np i len =>
  match i with
  | .lreturn => decide (kMr j = some .long) && Nat.beq len 1
  | _ => false
theorem ok_lret : KOk s_lret c_lret := by
  intro xs lay dd kc ks j pc np a b c d z w i len nx jp Q L st G I hd hc hf hn hj
  unfold c_lret at hc
  unfold s_lret at hf
  split at hc
  · simp only [Bool.and_eq_true] at hc
    obtain ⟨g1, h2⟩ := hc
    have h2 := kbe h2
    subst h2
    split at hf
    · cases hb : (Nat.beq kc 0 && Nat.beq ks 0) with
      | true =>
        rw [hb] at hf
        simp only [Bool.and_eq_true] at hb
        have b1 := kbe hb.1
        have b2 := kbe hb.2
        subst b1; subst b2
        exact kr_lret (st := []) (kc := 0) (ks := 0) hd (of_decide_eq_true g1) hf
      | false => rw [hb] at hf; exact hf.elim
    · exact hf.elim
  · cases hc
def s_vret : KF := fun a b c d z xs lay dd nx jp Q kc ks L st G I =>
  match st with
  | [] => bif Nat.beq kc 0 && Nat.beq ks 0 then Q 0 G I else False
  | _ => False
def c_vret : KH := fun j a b c d z w pc np i len =>
  match i with
  | .return_ => decide (kMr j = none) && Nat.beq len 1
  | _ => false
theorem ok_vret : KOk s_vret c_vret := by
  intro xs lay dd kc ks j pc np a b c d z w i len nx jp Q L st G I hd hc hf hn hj
  unfold c_vret at hc
  unfold s_vret at hf
  split at hc
  · simp only [Bool.and_eq_true] at hc
    obtain ⟨g1, h2⟩ := hc
    have h2 := kbe h2
    subst h2
    split at hf
    · cases hb : (Nat.beq kc 0 && Nat.beq ks 0) with
      | true =>
        rw [hb] at hf
        simp only [Bool.and_eq_true] at hb
        have b1 := kbe hb.1
        have b2 := kbe hb.2
        subst b1; subst b2
        exact kr_vret (st := []) (kc := 0) (ks := 0) hd (of_decide_eq_true g1) hf
      | false => rw [hb] at hf; exact hf.elim
    · exact hf.elim
  · cases hc
def s_aret : KF := fun a b c d z xs lay dd nx jp Q kc ks L st G I =>
  match st with
  | [(4, 43, x)] => bif Nat.beq kc 0 && Nat.beq ks 0 then Q x G I else False
  | _ => False
def c_aret : KH := fun j a b c d z w pc np i len =>
  match i with
  | .areturn => decide (kMr j = some (.array .int)) && Nat.beq len 1
  | _ => false
theorem ok_aret : KOk s_aret c_aret := by
  intro xs lay dd kc ks j pc np a b c d z w i len nx jp Q L st G I hd hc hf hn hj
  unfold c_aret at hc
  unfold s_aret at hf
  split at hc
  · simp only [Bool.and_eq_true] at hc
    obtain ⟨g1, h2⟩ := hc
    have h2 := kbe h2
    subst h2
    split at hf
    · cases hb : (Nat.beq kc 0 && Nat.beq ks 0) with
      | true =>
        rw [hb] at hf
        simp only [Bool.and_eq_true] at hb
        have b1 := kbe hb.1
        have b2 := kbe hb.2
        subst b1; subst b2
        exact kr_aret (st := []) (kc := 0) (ks := 0) hd (of_decide_eq_true g1) rfl hf
      | false => rw [hb] at hf; exact hf.elim
    · exact hf.elim
  · cases hc
