/-! THE OPERATIONS: what each does, and that it is right -/
def s_ldi : KF := fun a b c d z xs lay dd nx jp Q kc ks L st G I =>
  match klk L a with
  | some (0, n, x) => nx kc ks L ((0, n, x) :: st) G I
  | _ => False
theorem ok_ldi : KOk s_ldi c_ldi := by
  intro xs lay dd kc ks j pc np a b c d z w i len nx jp Q L st G I hd hc hf hn hj
  unfold c_ldi at hc
  unfold s_ldi at hf
  split at hc
  · simp only [Bool.and_eq_true] at hc
    obtain ⟨⟨h1, h2⟩, h3⟩ := hc
    have h1 := kbe h1; have h2 := kbe h2; have h3 := kbe h3
    subst h2; subst h3
    split at hf
    · rename_i hk
      exact kr_iload_n hd h1 hk (hn _ _ _ _ _ _ hf)
    · exact hf.elim
  · simp only [Bool.and_eq_true] at hc
    obtain ⟨⟨h1, h2⟩, h3⟩ := hc
    have h1 := kbe h1; have h2 := kbe h2; have h3 := kbe h3
    subst h1; subst h2; subst h3
    split at hf
    · rename_i hk
      exact kr_iload hd hk (hn _ _ _ _ _ _ hf)
    · exact hf.elim
  · cases hc
def s_lda : KF := fun a b c d z xs lay dd nx jp Q kc ks L st G I =>
  match klk L a with
  | some (t, n, x) => bif Nat.ble 2 t then nx kc ks L ((t, n, x) :: st) G I else False
  | none => False
theorem ok_lda : KOk s_lda c_lda := by
  intro xs lay dd kc ks j pc np a b c d z w i len nx jp Q L st G I hd hc hf hn hj
  unfold c_lda at hc
  unfold s_lda at hf
  split at hc
  · simp only [Bool.and_eq_true] at hc
    obtain ⟨⟨h1, h2⟩, h3⟩ := hc
    have h1 := kbe h1; have h2 := kbe h2; have h3 := kbe h3
    subst h2; subst h3
    split at hf
    · rename_i t n x hk
      cases hb : Nat.ble 2 t with
      | true =>
        rw [hb] at hf
        exact kr_aload_n hd h1 hk (Nat.le_of_ble_eq_true hb) (hn _ _ _ _ _ _ hf)
      | false => rw [hb] at hf; exact hf.elim
    · exact hf.elim
  · simp only [Bool.and_eq_true] at hc
    obtain ⟨⟨h1, h2⟩, h3⟩ := hc
    have h1 := kbe h1; have h2 := kbe h2; have h3 := kbe h3
    subst h1; subst h2; subst h3
    split at hf
    · rename_i t n x hk
      cases hb : Nat.ble 2 t with
      | true =>
        rw [hb] at hf
        exact kr_aload hd hk (Nat.le_of_ble_eq_true hb) (hn _ _ _ _ _ _ hf)
      | false => rw [hb] at hf; exact hf.elim
    · exact hf.elim
  · cases hc
def s_ldl : KF := fun a b c d z xs lay dd nx jp Q kc ks L st G I =>
  match klk L a with
  | some (1, n, x) => nx kc ks L ((1, n, x) :: st) G I
  | _ => False
theorem ok_ldl : KOk s_ldl c_ldl := by
  intro xs lay dd kc ks j pc np a b c d z w i len nx jp Q L st G I hd hc hf hn hj
  unfold c_ldl at hc
  unfold s_ldl at hf
  split at hc
  · simp only [Bool.and_eq_true] at hc
    obtain ⟨⟨h1, h2⟩, h3⟩ := hc
    have h1 := kbe h1; have h2 := kbe h2; have h3 := kbe h3
    subst h2; subst h3
    split at hf
    · rename_i hk
      exact kr_lload_n hd h1 hk (hn _ _ _ _ _ _ hf)
    · exact hf.elim
  · simp only [Bool.and_eq_true] at hc
    obtain ⟨⟨h1, h2⟩, h3⟩ := hc
    have h1 := kbe h1; have h2 := kbe h2; have h3 := kbe h3
    subst h1; subst h2; subst h3
    split at hf
    · rename_i hk
      exact kr_lload hd hk (hn _ _ _ _ _ _ hf)
    · exact hf.elim
  · cases hc
def s_sti : KF := fun a b c d z xs lay dd nx jp Q kc ks L st G I =>
  match st with
  | (0, n, x) :: st => nx kc ks ((a, 0, n, x) :: kdel a L) st G I
  | _ => False
theorem ok_sti : KOk s_sti c_sti := by
  intro xs lay dd kc ks j pc np a b c d z w i len nx jp Q L st G I hd hc hf hn hj
  unfold c_sti at hc
  unfold s_sti at hf
  split at hc
  · simp only [Bool.and_eq_true] at hc
    obtain ⟨⟨⟨h1, h4⟩, h2⟩, h3⟩ := hc
    have h1 := kbe h1; have h2 := kbe h2; have h3 := kbe h3
    subst h2; subst h3
    have h4 := Nat.le_of_ble_eq_true h4
    split at hf
    · exact kr_istore_n hd h1 h4 (hn _ _ _ _ _ _ hf)
    · exact hf.elim
  · simp only [Bool.and_eq_true] at hc
    obtain ⟨⟨⟨h1, h4⟩, h2⟩, h3⟩ := hc
    have h1 := kbe h1; have h2 := kbe h2; have h3 := kbe h3
    subst h1; subst h2; subst h3
    have h4 := Nat.le_of_ble_eq_true h4
    split at hf
    · exact kr_istore hd h4 (hn _ _ _ _ _ _ hf)
    · exact hf.elim
  · cases hc
def s_sta : KF := fun a b c d z xs lay dd nx jp Q kc ks L st G I =>
  match st with
  | (t, n, x) :: st => bif Nat.ble 2 t then nx kc ks ((a, t, n, x) :: kdel a L) st G I else False
  | [] => False
theorem ok_sta : KOk s_sta c_sta := by
  intro xs lay dd kc ks j pc np a b c d z w i len nx jp Q L st G I hd hc hf hn hj
  unfold c_sta at hc
  unfold s_sta at hf
  split at hc
  · simp only [Bool.and_eq_true] at hc
    obtain ⟨⟨⟨h1, h4⟩, h2⟩, h3⟩ := hc
    have h1 := kbe h1; have h2 := kbe h2; have h3 := kbe h3
    subst h2; subst h3
    have h4 := Nat.le_of_ble_eq_true h4
    split at hf
    · rename_i t n x st
      cases hb : Nat.ble 2 t with
      | true =>
        rw [hb] at hf
        exact kr_astore_n hd h1 h4 (Nat.le_of_ble_eq_true hb) (hn _ _ _ _ _ _ hf)
      | false => rw [hb] at hf; exact hf.elim
    · exact hf.elim
  · simp only [Bool.and_eq_true] at hc
    obtain ⟨⟨⟨h1, h4⟩, h2⟩, h3⟩ := hc
    have h1 := kbe h1; have h2 := kbe h2; have h3 := kbe h3
    subst h1; subst h2; subst h3
    have h4 := Nat.le_of_ble_eq_true h4
    split at hf
    · rename_i t n x st
      cases hb : Nat.ble 2 t with
      | true =>
        rw [hb] at hf
        exact kr_astore hd h4 (Nat.le_of_ble_eq_true hb) (hn _ _ _ _ _ _ hf)
      | false => rw [hb] at hf; exact hf.elim
    · exact hf.elim
  · cases hc
def s_stl : KF := fun a b c d z xs lay dd nx jp Q kc ks L st G I =>
  match st with
  | (1, n, x) :: st => nx kc ks ((a, 1, n, x) :: kdel2 a L) st G I
  | _ => False
theorem ok_stl : KOk s_stl c_stl := by
  intro xs lay dd kc ks j pc np a b c d z w i len nx jp Q L st G I hd hc hf hn hj
  unfold c_stl at hc
  unfold s_stl at hf
  split at hc
  · simp only [Bool.and_eq_true] at hc
    obtain ⟨⟨⟨h1, h4⟩, h2⟩, h3⟩ := hc
    have h1 := kbe h1; have h2 := kbe h2; have h3 := kbe h3
    subst h2; subst h3
    have h4 := Nat.le_of_ble_eq_true h4
    split at hf
    · exact kr_lstore_n hd h1 h4 (hn _ _ _ _ _ _ hf)
    · exact hf.elim
  · simp only [Bool.and_eq_true] at hc
    obtain ⟨⟨⟨h1, h4⟩, h2⟩, h3⟩ := hc
    have h1 := kbe h1; have h2 := kbe h2; have h3 := kbe h3
    subst h1; subst h2; subst h3
    have h4 := Nat.le_of_ble_eq_true h4
    split at hf
    · exact kr_lstore hd h4 (hn _ _ _ _ _ _ hf)
    · exact hf.elim
  · cases hc
def s_pushi : KF := fun a b c d z xs lay dd nx jp Q kc ks L st G I =>
  nx kc ks L ((0, 0, z) :: st) G I
theorem ok_pushi : KOk s_pushi c_pushi := by
  intro xs lay dd kc ks j pc np a b c d z w i len nx jp Q L st G I hd hc hf hn hj
  unfold c_pushi at hc
  unfold s_pushi at hf
  split at hc
  · simp only [Bool.and_eq_true] at hc
    obtain ⟨⟨⟨h1, h4⟩, h2⟩, h3⟩ := hc
    have h2 := kbe h2; have h3 := kbe h3
    subst h2; subst h3
    exact kr_iconst hd ⟨of_decide_eq_true h4.1, of_decide_eq_true h4.2⟩ (of_decide_eq_true h1) (hn _ _ _ _ _ _ hf)
  · simp only [Bool.and_eq_true] at hc
    obtain ⟨⟨⟨h1, h4⟩, h2⟩, h3⟩ := hc
    have h2 := kbe h2; have h3 := kbe h3
    subst h2; subst h3
    exact kr_bipush hd ⟨of_decide_eq_true h4.1, of_decide_eq_true h4.2⟩ (of_decide_eq_true h1) (hn _ _ _ _ _ _ hf)
  · simp only [Bool.and_eq_true] at hc
    obtain ⟨⟨⟨h1, h4⟩, h2⟩, h3⟩ := hc
    have h2 := kbe h2; have h3 := kbe h3
    subst h2; subst h3
    exact kr_sipush hd ⟨of_decide_eq_true h4.1, of_decide_eq_true h4.2⟩ (of_decide_eq_true h1) (hn _ _ _ _ _ _ hf)
  · simp only [Bool.and_eq_true] at hc
    obtain ⟨⟨⟨h1, h4⟩, h2⟩, h3⟩ := hc
    have h2 := kbe h2; have h3 := kbe h3
    subst h2; subst h3
    exact kr_ldc hd (kIs_in h1) ⟨of_decide_eq_true h4.1, of_decide_eq_true h4.2⟩ rfl (hn _ _ _ _ _ _ hf)
  · simp only [Bool.and_eq_true] at hc
    obtain ⟨⟨⟨h1, h4⟩, h2⟩, h3⟩ := hc
    have h2 := kbe h2; have h3 := kbe h3
    subst h2; subst h3
    exact kr_ldcw hd (kIs_in h1) ⟨of_decide_eq_true h4.1, of_decide_eq_true h4.2⟩ rfl (hn _ _ _ _ _ _ hf)
  · cases hc
def s_pushl : KF := fun a b c d z xs lay dd nx jp Q kc ks L st G I =>
  nx kc ks L ((1, 0, z) :: st) G I
theorem ok_pushl : KOk s_pushl c_pushl := by
  intro xs lay dd kc ks j pc np a b c d z w i len nx jp Q L st G I hd hc hf hn hj
  unfold c_pushl at hc
  unfold s_pushl at hf
  split at hc
  · simp only [Bool.and_eq_true] at hc
    obtain ⟨⟨⟨h1, h4⟩, h2⟩, h3⟩ := hc
    have h2 := kbe h2; have h3 := kbe h3
    subst h2; subst h3
    exact kr_lconst hd ⟨of_decide_eq_true h4.1, of_decide_eq_true h4.2⟩ (of_decide_eq_true h1) (hn _ _ _ _ _ _ hf)
  · simp only [Bool.and_eq_true] at hc
    obtain ⟨⟨⟨h1, h4⟩, h2⟩, h3⟩ := hc
    have h2 := kbe h2; have h3 := kbe h3
    subst h2; subst h3
    exact kr_ldc2 hd (kIs_in h1) ⟨of_decide_eq_true h4.1, of_decide_eq_true h4.2⟩ rfl (hn _ _ _ _ _ _ hf)
  · cases hc
def s_null : KF := fun a b c d z xs lay dd nx jp Q kc ks L st G I =>
  nx kc ks L ((2, 0, 0) :: st) G I
theorem ok_null : KOk s_null c_null := by
  intro xs lay dd kc ks j pc np a b c d z w i len nx jp Q L st G I hd hc hf hn hj
  unfold c_null at hc
  unfold s_null at hf
  split at hc
  · simp only [Bool.and_eq_true] at hc
    obtain ⟨h2, h3⟩ := hc
    have h2 := kbe h2; have h3 := kbe h3
    subst h2; subst h3
    exact kr_null hd (hn _ _ _ _ _ _ hf)
  · cases hc
def s_iinc : KF := fun a b c d z xs lay dd nx jp Q kc ks L st G I =>
  match klk L a with
  | some (0, n, x) => nx kc ks ((a, 0, 0, w32 (x + z)) :: kdel a L) st G I
  | _ => False
theorem ok_iinc : KOk s_iinc c_iinc := by
  intro xs lay dd kc ks j pc np a b c d z w i len nx jp Q L st G I hd hc hf hn hj
  unfold c_iinc at hc
  unfold s_iinc at hf
  split at hc
  · simp only [Bool.and_eq_true] at hc
    obtain ⟨⟨⟨⟨h1, h5⟩, h4⟩, h2⟩, h3⟩ := hc
    have h1 := kbe h1; have h2 := kbe h2; have h3 := kbe h3; have h5 := of_decide_eq_true h5
    subst h1; subst h2; subst h3; subst h5
    split at hf
    · rename_i hk
      exact kr_iinc hd hk (Nat.le_of_ble_eq_true h4) (hn _ _ _ _ _ _ hf)
    · exact hf.elim
  · cases hc
def s_iadd : KF := fun a b c d z xs lay dd nx jp Q kc ks L st G I =>
  match st with
  | (0, _, y) :: (0, _, x) :: st => nx kc ks L ((0, 0, w32 (x + y)) :: st) G I
  | _ => False
theorem ok_iadd : KOk s_iadd c_iadd := by
  intro xs lay dd kc ks j pc np a b c d z w i len nx jp Q L st G I hd hc hf hn hj
  unfold c_iadd at hc
  unfold s_iadd at hf
  split at hc
  · simp only [Bool.and_eq_true] at hc
    obtain ⟨h2, h3⟩ := hc
    have h2 := kbe h2; have h3 := kbe h3
    subst h2; subst h3
    split at hf
    · exact kr_iadd hd (hn _ _ _ _ _ _ hf)
    · exact hf.elim
  · cases hc
def s_isub : KF := fun a b c d z xs lay dd nx jp Q kc ks L st G I =>
  match st with
  | (0, _, y) :: (0, _, x) :: st => nx kc ks L ((0, 0, w32 (x - y)) :: st) G I
  | _ => False
theorem ok_isub : KOk s_isub c_isub := by
  intro xs lay dd kc ks j pc np a b c d z w i len nx jp Q L st G I hd hc hf hn hj
  unfold c_isub at hc
  unfold s_isub at hf
  split at hc
  · simp only [Bool.and_eq_true] at hc
    obtain ⟨h2, h3⟩ := hc
    have h2 := kbe h2; have h3 := kbe h3
    subst h2; subst h3
    split at hf
    · exact kr_isub hd (hn _ _ _ _ _ _ hf)
    · exact hf.elim
  · cases hc
def s_imul : KF := fun a b c d z xs lay dd nx jp Q kc ks L st G I =>
  match st with
  | (0, _, y) :: (0, _, x) :: st => nx kc ks L ((0, 0, w32 (x * y)) :: st) G I
  | _ => False
theorem ok_imul : KOk s_imul c_imul := by
  intro xs lay dd kc ks j pc np a b c d z w i len nx jp Q L st G I hd hc hf hn hj
  unfold c_imul at hc
  unfold s_imul at hf
  split at hc
  · simp only [Bool.and_eq_true] at hc
    obtain ⟨h2, h3⟩ := hc
    have h2 := kbe h2; have h3 := kbe h3
    subst h2; subst h3
    split at hf
    · exact kr_imul hd (hn _ _ _ _ _ _ hf)
    · exact hf.elim
  · cases hc
def s_idiv : KF := fun a b c d z xs lay dd nx jp Q kc ks L st G I =>
  match st with
  | (0, _, y) :: (0, _, x) :: st => (y ≠ 0) ∧ nx kc ks L ((0, 0, kidiv x y) :: st) G I
  | _ => False
theorem ok_idiv : KOk s_idiv c_idiv := by
  intro xs lay dd kc ks j pc np a b c d z w i len nx jp Q L st G I hd hc hf hn hj
  unfold c_idiv at hc
  unfold s_idiv at hf
  split at hc
  · simp only [Bool.and_eq_true] at hc
    obtain ⟨h2, h3⟩ := hc
    have h2 := kbe h2; have h3 := kbe h3
    subst h2; subst h3
    split at hf
    · exact kr_idiv hd hf.1 (hn _ _ _ _ _ _ hf.2)
    · exact hf.elim
  · cases hc
def s_irem : KF := fun a b c d z xs lay dd nx jp Q kc ks L st G I =>
  match st with
  | (0, _, y) :: (0, _, x) :: st => (y ≠ 0) ∧ nx kc ks L ((0, 0, kirem x y) :: st) G I
  | _ => False
theorem ok_irem : KOk s_irem c_irem := by
  intro xs lay dd kc ks j pc np a b c d z w i len nx jp Q L st G I hd hc hf hn hj
  unfold c_irem at hc
  unfold s_irem at hf
  split at hc
  · simp only [Bool.and_eq_true] at hc
    obtain ⟨h2, h3⟩ := hc
    have h2 := kbe h2; have h3 := kbe h3
    subst h2; subst h3
    split at hf
    · exact kr_irem hd hf.1 (hn _ _ _ _ _ _ hf.2)
    · exact hf.elim
  · cases hc
def s_iand : KF := fun a b c d z xs lay dd nx jp Q kc ks L st G I =>
  match st with
  | (0, _, y) :: (0, _, x) :: st => nx kc ks L ((0, 0, kiand x y) :: st) G I
  | _ => False
theorem ok_iand : KOk s_iand c_iand := by
  intro xs lay dd kc ks j pc np a b c d z w i len nx jp Q L st G I hd hc hf hn hj
  unfold c_iand at hc
  unfold s_iand at hf
  split at hc
  · simp only [Bool.and_eq_true] at hc
    obtain ⟨h2, h3⟩ := hc
    have h2 := kbe h2; have h3 := kbe h3
    subst h2; subst h3
    split at hf
    · exact kr_iand hd (hn _ _ _ _ _ _ hf)
    · exact hf.elim
  · cases hc
def s_ior : KF := fun a b c d z xs lay dd nx jp Q kc ks L st G I =>
  match st with
  | (0, _, y) :: (0, _, x) :: st => nx kc ks L ((0, 0, kior x y) :: st) G I
  | _ => False
theorem ok_ior : KOk s_ior c_ior := by
  intro xs lay dd kc ks j pc np a b c d z w i len nx jp Q L st G I hd hc hf hn hj
  unfold c_ior at hc
  unfold s_ior at hf
  split at hc
  · simp only [Bool.and_eq_true] at hc
    obtain ⟨h2, h3⟩ := hc
    have h2 := kbe h2; have h3 := kbe h3
    subst h2; subst h3
    split at hf
    · exact kr_ior hd (hn _ _ _ _ _ _ hf)
    · exact hf.elim
  · cases hc
def s_ixor : KF := fun a b c d z xs lay dd nx jp Q kc ks L st G I =>
  match st with
  | (0, _, y) :: (0, _, x) :: st => nx kc ks L ((0, 0, kixor x y) :: st) G I
  | _ => False
theorem ok_ixor : KOk s_ixor c_ixor := by
  intro xs lay dd kc ks j pc np a b c d z w i len nx jp Q L st G I hd hc hf hn hj
  unfold c_ixor at hc
  unfold s_ixor at hf
  split at hc
  · simp only [Bool.and_eq_true] at hc
    obtain ⟨h2, h3⟩ := hc
    have h2 := kbe h2; have h3 := kbe h3
    subst h2; subst h3
    split at hf
    · exact kr_ixor hd (hn _ _ _ _ _ _ hf)
    · exact hf.elim
  · cases hc
def s_ishl : KF := fun a b c d z xs lay dd nx jp Q kc ks L st G I =>
  match st with
  | (0, _, y) :: (0, _, x) :: st => nx kc ks L ((0, 0, kishl x y) :: st) G I
  | _ => False
theorem ok_ishl : KOk s_ishl c_ishl := by
  intro xs lay dd kc ks j pc np a b c d z w i len nx jp Q L st G I hd hc hf hn hj
  unfold c_ishl at hc
  unfold s_ishl at hf
  split at hc
  · simp only [Bool.and_eq_true] at hc
    obtain ⟨h2, h3⟩ := hc
    have h2 := kbe h2; have h3 := kbe h3
    subst h2; subst h3
    split at hf
    · exact kr_ishl hd (hn _ _ _ _ _ _ hf)
    · exact hf.elim
  · cases hc
def s_ishr : KF := fun a b c d z xs lay dd nx jp Q kc ks L st G I =>
  match st with
  | (0, _, y) :: (0, _, x) :: st => nx kc ks L ((0, 0, kishr x y) :: st) G I
  | _ => False
theorem ok_ishr : KOk s_ishr c_ishr := by
  intro xs lay dd kc ks j pc np a b c d z w i len nx jp Q L st G I hd hc hf hn hj
  unfold c_ishr at hc
  unfold s_ishr at hf
  split at hc
  · simp only [Bool.and_eq_true] at hc
    obtain ⟨h2, h3⟩ := hc
    have h2 := kbe h2; have h3 := kbe h3
    subst h2; subst h3
    split at hf
    · exact kr_ishr hd (hn _ _ _ _ _ _ hf)
    · exact hf.elim
  · cases hc
def s_iushr : KF := fun a b c d z xs lay dd nx jp Q kc ks L st G I =>
  match st with
  | (0, _, y) :: (0, _, x) :: st => nx kc ks L ((0, 0, kiushr x y) :: st) G I
  | _ => False
theorem ok_iushr : KOk s_iushr c_iushr := by
  intro xs lay dd kc ks j pc np a b c d z w i len nx jp Q L st G I hd hc hf hn hj
  unfold c_iushr at hc
  unfold s_iushr at hf
  split at hc
  · simp only [Bool.and_eq_true] at hc
    obtain ⟨h2, h3⟩ := hc
    have h2 := kbe h2; have h3 := kbe h3
    subst h2; subst h3
    split at hf
    · exact kr_iushr hd (hn _ _ _ _ _ _ hf)
    · exact hf.elim
  · cases hc
def s_ineg : KF := fun a b c d z xs lay dd nx jp Q kc ks L st G I =>
  match st with
  | (0, _, x) :: st => nx kc ks L ((0, 0, w32 (-x)) :: st) G I
  | _ => False
theorem ok_ineg : KOk s_ineg c_ineg := by
  intro xs lay dd kc ks j pc np a b c d z w i len nx jp Q L st G I hd hc hf hn hj
  unfold c_ineg at hc
  unfold s_ineg at hf
  split at hc
  · simp only [Bool.and_eq_true] at hc
    obtain ⟨h2, h3⟩ := hc
    have h2 := kbe h2; have h3 := kbe h3
    subst h2; subst h3
    split at hf
    · exact kr_ineg hd (hn _ _ _ _ _ _ hf)
    · exact hf.elim
  · cases hc
def s_land : KF := fun a b c d z xs lay dd nx jp Q kc ks L st G I =>
  match st with
  | (1, _, y) :: (1, _, x) :: st => nx kc ks L ((1, 0, kland x y) :: st) G I
  | _ => False
theorem ok_land : KOk s_land c_land := by
  intro xs lay dd kc ks j pc np a b c d z w i len nx jp Q L st G I hd hc hf hn hj
  unfold c_land at hc
  unfold s_land at hf
  split at hc
  · simp only [Bool.and_eq_true] at hc
    obtain ⟨h2, h3⟩ := hc
    have h2 := kbe h2; have h3 := kbe h3
    subst h2; subst h3
    split at hf
    · exact kr_land hd (hn _ _ _ _ _ _ hf)
    · exact hf.elim
  · cases hc
def s_lor : KF := fun a b c d z xs lay dd nx jp Q kc ks L st G I =>
  match st with
  | (1, _, y) :: (1, _, x) :: st => nx kc ks L ((1, 0, klor x y) :: st) G I
  | _ => False
theorem ok_lor : KOk s_lor c_lor := by
  intro xs lay dd kc ks j pc np a b c d z w i len nx jp Q L st G I hd hc hf hn hj
  unfold c_lor at hc
  unfold s_lor at hf
  split at hc
  · simp only [Bool.and_eq_true] at hc
    obtain ⟨h2, h3⟩ := hc
    have h2 := kbe h2; have h3 := kbe h3
    subst h2; subst h3
    split at hf
    · exact kr_lor hd (hn _ _ _ _ _ _ hf)
    · exact hf.elim
  · cases hc
def s_lshl : KF := fun a b c d z xs lay dd nx jp Q kc ks L st G I =>
  match st with
  | (0, _, y) :: (1, _, x) :: st => nx kc ks L ((1, 0, klshl x y) :: st) G I
  | _ => False
theorem ok_lshl : KOk s_lshl c_lshl := by
  intro xs lay dd kc ks j pc np a b c d z w i len nx jp Q L st G I hd hc hf hn hj
  unfold c_lshl at hc
  unfold s_lshl at hf
  split at hc
  · simp only [Bool.and_eq_true] at hc
    obtain ⟨h2, h3⟩ := hc
    have h2 := kbe h2; have h3 := kbe h3
    subst h2; subst h3
    split at hf
    · exact kr_lshl hd (hn _ _ _ _ _ _ hf)
    · exact hf.elim
  · cases hc
def s_lcmp : KF := fun a b c d z xs lay dd nx jp Q kc ks L st G I =>
  match st with
  | (1, _, y) :: (1, _, x) :: st => nx kc ks L ((0, 0, klcmp x y) :: st) G I
  | _ => False
theorem ok_lcmp : KOk s_lcmp c_lcmp := by
  intro xs lay dd kc ks j pc np a b c d z w i len nx jp Q L st G I hd hc hf hn hj
  unfold c_lcmp at hc
  unfold s_lcmp at hf
  split at hc
  · simp only [Bool.and_eq_true] at hc
    obtain ⟨h2, h3⟩ := hc
    have h2 := kbe h2; have h3 := kbe h3
    subst h2; subst h3
    split at hf
    · exact kr_lcmp hd (hn _ _ _ _ _ _ hf)
    · exact hf.elim
  · cases hc
def s_i2l : KF := fun a b c d z xs lay dd nx jp Q kc ks L st G I =>
  match st with
  | (0, _, x) :: st => nx kc ks L ((1, 0, x) :: st) G I
  | _ => False
theorem ok_i2l : KOk s_i2l c_i2l := by
  intro xs lay dd kc ks j pc np a b c d z w i len nx jp Q L st G I hd hc hf hn hj
  unfold c_i2l at hc
  unfold s_i2l at hf
  split at hc
  · simp only [Bool.and_eq_true] at hc
    obtain ⟨h2, h3⟩ := hc
    have h2 := kbe h2; have h3 := kbe h3
    subst h2; subst h3
    split at hf
    · exact kr_i2l hd (hn _ _ _ _ _ _ hf)
    · exact hf.elim
  · cases hc
def s_l2i : KF := fun a b c d z xs lay dd nx jp Q kc ks L st G I =>
  match st with
  | (1, _, x) :: st => nx kc ks L ((0, 0, w32 x) :: st) G I
  | _ => False
theorem ok_l2i : KOk s_l2i c_l2i := by
  intro xs lay dd kc ks j pc np a b c d z w i len nx jp Q L st G I hd hc hf hn hj
  unfold c_l2i at hc
  unfold s_l2i at hf
  split at hc
  · simp only [Bool.and_eq_true] at hc
    obtain ⟨h2, h3⟩ := hc
    have h2 := kbe h2; have h3 := kbe h3
    subst h2; subst h3
    split at hf
    · exact kr_l2i hd (hn _ _ _ _ _ _ hf)
    · exact hf.elim
  · cases hc
def s_i2b : KF := fun a b c d z xs lay dd nx jp Q kc ks L st G I =>
  match st with
  | (0, _, x) :: st => nx kc ks L ((0, 0, w8 x) :: st) G I
  | _ => False
theorem ok_i2b : KOk s_i2b c_i2b := by
  intro xs lay dd kc ks j pc np a b c d z w i len nx jp Q L st G I hd hc hf hn hj
  unfold c_i2b at hc
  unfold s_i2b at hf
  split at hc
  · simp only [Bool.and_eq_true] at hc
    obtain ⟨h2, h3⟩ := hc
    have h2 := kbe h2; have h3 := kbe h3
    subst h2; subst h3
    split at hf
    · exact kr_i2b hd (hn _ _ _ _ _ _ hf)
    · exact hf.elim
  · cases hc
def s_i2s : KF := fun a b c d z xs lay dd nx jp Q kc ks L st G I =>
  match st with
  | (0, _, x) :: st => nx kc ks L ((0, 0, w16 x) :: st) G I
  | _ => False
theorem ok_i2s : KOk s_i2s c_i2s := by
  intro xs lay dd kc ks j pc np a b c d z w i len nx jp Q L st G I hd hc hf hn hj
  unfold c_i2s at hc
  unfold s_i2s at hf
  split at hc
  · simp only [Bool.and_eq_true] at hc
    obtain ⟨h2, h3⟩ := hc
    have h2 := kbe h2; have h3 := kbe h3
    subst h2; subst h3
    split at hf
    · exact kr_i2s hd (hn _ _ _ _ _ _ hf)
    · exact hf.elim
  · cases hc
def s_dup : KF := fun a b c d z xs lay dd nx jp Q kc ks L st G I =>
  match st with
  | u :: st => bif !(Nat.beq u.1 1) then nx kc ks L (u :: u :: st) G I else False
  | _ => False
theorem ok_dup : KOk s_dup c_dup := by
  intro xs lay dd kc ks j pc np a b c d z w i len nx jp Q L st G I hd hc hf hn hj
  unfold c_dup at hc
  unfold s_dup at hf
  split at hc
  · simp only [Bool.and_eq_true] at hc
    obtain ⟨h2, h3⟩ := hc
    have h2 := kbe h2; have h3 := kbe h3
    subst h2; subst h3
    split at hf
    · rename_i u st
      cases hb : (!(Nat.beq u.1 1)) with
      | true =>
        rw [hb] at hf
        exact kr_dup hd (fun e => by rw [e] at hb; simp at hb) (hn _ _ _ _ _ _ hf)
      | false => rw [hb] at hf; exact hf.elim
    · exact hf.elim
  · cases hc
def s_pop : KF := fun a b c d z xs lay dd nx jp Q kc ks L st G I =>
  match st with
  | u :: st => bif !(Nat.beq u.1 1) then nx kc ks L (st) G I else False
  | _ => False
theorem ok_pop : KOk s_pop c_pop := by
  intro xs lay dd kc ks j pc np a b c d z w i len nx jp Q L st G I hd hc hf hn hj
  unfold c_pop at hc
  unfold s_pop at hf
  split at hc
  · simp only [Bool.and_eq_true] at hc
    obtain ⟨h2, h3⟩ := hc
    have h2 := kbe h2; have h3 := kbe h3
    subst h2; subst h3
    split at hf
    · rename_i u st
      cases hb : (!(Nat.beq u.1 1)) with
      | true =>
        rw [hb] at hf
        exact kr_pop hd (fun e => by rw [e] at hb; simp at hb) (hn _ _ _ _ _ _ hf)
      | false => rw [hb] at hf; exact hf.elim
    · exact hf.elim
  · cases hc
def s_dup_x1 : KF := fun a b c d z xs lay dd nx jp Q kc ks L st G I =>
  match st with
  | u :: v :: st => bif !(Nat.beq u.1 1) && !(Nat.beq v.1 1) then nx kc ks L (u :: v :: u :: st) G I else False
  | _ => False
theorem ok_dup_x1 : KOk s_dup_x1 c_dup_x1 := by
  intro xs lay dd kc ks j pc np a b c d z w i len nx jp Q L st G I hd hc hf hn hj
  unfold c_dup_x1 at hc
  unfold s_dup_x1 at hf
  split at hc
  · simp only [Bool.and_eq_true] at hc
    obtain ⟨h2, h3⟩ := hc
    have h2 := kbe h2; have h3 := kbe h3
    subst h2; subst h3
    split at hf
    · rename_i u v st
      cases hb : (!(Nat.beq u.1 1) && !(Nat.beq v.1 1)) with
      | true =>
        rw [hb] at hf
        exact kr_dup_x1 hd (fun e => by rw [e] at hb; simp at hb) (fun e => by rw [e] at hb; simp at hb) (hn _ _ _ _ _ _ hf)
      | false => rw [hb] at hf; exact hf.elim
    · exact hf.elim
  · cases hc
def s_dup2 : KF := fun a b c d z xs lay dd nx jp Q kc ks L st G I =>
  match st with
  | u :: v :: st => bif !(Nat.beq u.1 1) && !(Nat.beq v.1 1) then nx kc ks L (u :: v :: u :: v :: st) G I else False
  | _ => False
theorem ok_dup2 : KOk s_dup2 c_dup2 := by
  intro xs lay dd kc ks j pc np a b c d z w i len nx jp Q L st G I hd hc hf hn hj
  unfold c_dup2 at hc
  unfold s_dup2 at hf
  split at hc
  · simp only [Bool.and_eq_true] at hc
    obtain ⟨h2, h3⟩ := hc
    have h2 := kbe h2; have h3 := kbe h3
    subst h2; subst h3
    split at hf
    · rename_i u v st
      cases hb : (!(Nat.beq u.1 1) && !(Nat.beq v.1 1)) with
      | true =>
        rw [hb] at hf
        exact kr_dup2 hd (fun e => by rw [e] at hb; simp at hb) (fun e => by rw [e] at hb; simp at hb) (hn _ _ _ _ _ _ hf)
      | false => rw [hb] at hf; exact hf.elim
    · exact hf.elim
  · cases hc
def s_if_eq : KF := fun a b c d z xs lay dd nx jp Q kc ks L st G I =>
  match st with
  | (0, _, x) :: st => (x = 0 → jp a kc ks L st G I) ∧ (x ≠ 0 → nx kc ks L st G I)
  | _ => False
theorem ok_if_eq : KOk s_if_eq c_if_eq := by
  intro xs lay dd kc ks j pc np a b c d z w i len nx jp Q L st G I hd hc hf hn hj
  unfold c_if_eq at hc
  unfold s_if_eq at hf
  split at hc
  · simp only [Bool.and_eq_true] at hc
    obtain ⟨⟨h1, h2⟩, h3⟩ := hc
    have h1 := of_decide_eq_true h1; have h2 := kbe h2; have h3 := kbe h3
    subst h2; subst h3
    split at hf
    · exact kr_if_eq hd h1 (fun q => hj _ _ _ _ _ _ _ (hf.1 q)) (fun q => hn _ _ _ _ _ _ (hf.2 q))
    · exact hf.elim
  · cases hc
def s_if_ne : KF := fun a b c d z xs lay dd nx jp Q kc ks L st G I =>
  match st with
  | (0, _, x) :: st => (x ≠ 0 → jp a kc ks L st G I) ∧ (x = 0 → nx kc ks L st G I)
  | _ => False
theorem ok_if_ne : KOk s_if_ne c_if_ne := by
  intro xs lay dd kc ks j pc np a b c d z w i len nx jp Q L st G I hd hc hf hn hj
  unfold c_if_ne at hc
  unfold s_if_ne at hf
  split at hc
  · simp only [Bool.and_eq_true] at hc
    obtain ⟨⟨h1, h2⟩, h3⟩ := hc
    have h1 := of_decide_eq_true h1; have h2 := kbe h2; have h3 := kbe h3
    subst h2; subst h3
    split at hf
    · exact kr_if_ne hd h1 (fun q => hj _ _ _ _ _ _ _ (hf.1 q)) (fun q => hn _ _ _ _ _ _ (hf.2 q))
    · exact hf.elim
  · cases hc
def s_if_lt : KF := fun a b c d z xs lay dd nx jp Q kc ks L st G I =>
  match st with
  | (0, _, x) :: st => (x < 0 → jp a kc ks L st G I) ∧ (0 ≤ x → nx kc ks L st G I)
  | _ => False
theorem ok_if_lt : KOk s_if_lt c_if_lt := by
  intro xs lay dd kc ks j pc np a b c d z w i len nx jp Q L st G I hd hc hf hn hj
  unfold c_if_lt at hc
  unfold s_if_lt at hf
  split at hc
  · simp only [Bool.and_eq_true] at hc
    obtain ⟨⟨h1, h2⟩, h3⟩ := hc
    have h1 := of_decide_eq_true h1; have h2 := kbe h2; have h3 := kbe h3
    subst h2; subst h3
    split at hf
    · exact kr_if_lt hd h1 (fun q => hj _ _ _ _ _ _ _ (hf.1 q)) (fun q => hn _ _ _ _ _ _ (hf.2 q))
    · exact hf.elim
  · cases hc
def s_if_ge : KF := fun a b c d z xs lay dd nx jp Q kc ks L st G I =>
  match st with
  | (0, _, x) :: st => (0 ≤ x → jp a kc ks L st G I) ∧ (x < 0 → nx kc ks L st G I)
  | _ => False
theorem ok_if_ge : KOk s_if_ge c_if_ge := by
  intro xs lay dd kc ks j pc np a b c d z w i len nx jp Q L st G I hd hc hf hn hj
  unfold c_if_ge at hc
  unfold s_if_ge at hf
  split at hc
  · simp only [Bool.and_eq_true] at hc
    obtain ⟨⟨h1, h2⟩, h3⟩ := hc
    have h1 := of_decide_eq_true h1; have h2 := kbe h2; have h3 := kbe h3
    subst h2; subst h3
    split at hf
    · exact kr_if_ge hd h1 (fun q => hj _ _ _ _ _ _ _ (hf.1 q)) (fun q => hn _ _ _ _ _ _ (hf.2 q))
    · exact hf.elim
  · cases hc
def s_if_gt : KF := fun a b c d z xs lay dd nx jp Q kc ks L st G I =>
  match st with
  | (0, _, x) :: st => (0 < x → jp a kc ks L st G I) ∧ (x ≤ 0 → nx kc ks L st G I)
  | _ => False
theorem ok_if_gt : KOk s_if_gt c_if_gt := by
  intro xs lay dd kc ks j pc np a b c d z w i len nx jp Q L st G I hd hc hf hn hj
  unfold c_if_gt at hc
  unfold s_if_gt at hf
  split at hc
  · simp only [Bool.and_eq_true] at hc
    obtain ⟨⟨h1, h2⟩, h3⟩ := hc
    have h1 := of_decide_eq_true h1; have h2 := kbe h2; have h3 := kbe h3
    subst h2; subst h3
    split at hf
    · exact kr_if_gt hd h1 (fun q => hj _ _ _ _ _ _ _ (hf.1 q)) (fun q => hn _ _ _ _ _ _ (hf.2 q))
    · exact hf.elim
  · cases hc
def s_if_le : KF := fun a b c d z xs lay dd nx jp Q kc ks L st G I =>
  match st with
  | (0, _, x) :: st => (x ≤ 0 → jp a kc ks L st G I) ∧ (0 < x → nx kc ks L st G I)
  | _ => False
theorem ok_if_le : KOk s_if_le c_if_le := by
  intro xs lay dd kc ks j pc np a b c d z w i len nx jp Q L st G I hd hc hf hn hj
  unfold c_if_le at hc
  unfold s_if_le at hf
  split at hc
  · simp only [Bool.and_eq_true] at hc
    obtain ⟨⟨h1, h2⟩, h3⟩ := hc
    have h1 := of_decide_eq_true h1; have h2 := kbe h2; have h3 := kbe h3
    subst h2; subst h3
    split at hf
    · exact kr_if_le hd h1 (fun q => hj _ _ _ _ _ _ _ (hf.1 q)) (fun q => hn _ _ _ _ _ _ (hf.2 q))
    · exact hf.elim
  · cases hc
def s_icmp_eq : KF := fun a b c d z xs lay dd nx jp Q kc ks L st G I =>
  match st with
  | (0, _, y) :: (0, _, x) :: st => (x = y → jp a kc ks L st G I) ∧ (x ≠ y → nx kc ks L st G I)
  | _ => False
theorem ok_icmp_eq : KOk s_icmp_eq c_icmp_eq := by
  intro xs lay dd kc ks j pc np a b c d z w i len nx jp Q L st G I hd hc hf hn hj
  unfold c_icmp_eq at hc
  unfold s_icmp_eq at hf
  split at hc
  · simp only [Bool.and_eq_true] at hc
    obtain ⟨⟨h1, h2⟩, h3⟩ := hc
    have h1 := of_decide_eq_true h1; have h2 := kbe h2; have h3 := kbe h3
    subst h2; subst h3
    split at hf
    · exact kr_icmp_eq hd h1 (fun q => hj _ _ _ _ _ _ _ (hf.1 q)) (fun q => hn _ _ _ _ _ _ (hf.2 q))
    · exact hf.elim
  · cases hc
def s_icmp_ne : KF := fun a b c d z xs lay dd nx jp Q kc ks L st G I =>
  match st with
  | (0, _, y) :: (0, _, x) :: st => (x ≠ y → jp a kc ks L st G I) ∧ (x = y → nx kc ks L st G I)
  | _ => False
theorem ok_icmp_ne : KOk s_icmp_ne c_icmp_ne := by
  intro xs lay dd kc ks j pc np a b c d z w i len nx jp Q L st G I hd hc hf hn hj
  unfold c_icmp_ne at hc
  unfold s_icmp_ne at hf
  split at hc
  · simp only [Bool.and_eq_true] at hc
    obtain ⟨⟨h1, h2⟩, h3⟩ := hc
    have h1 := of_decide_eq_true h1; have h2 := kbe h2; have h3 := kbe h3
    subst h2; subst h3
    split at hf
    · exact kr_icmp_ne hd h1 (fun q => hj _ _ _ _ _ _ _ (hf.1 q)) (fun q => hn _ _ _ _ _ _ (hf.2 q))
    · exact hf.elim
  · cases hc
def s_icmp_lt : KF := fun a b c d z xs lay dd nx jp Q kc ks L st G I =>
  match st with
  | (0, _, y) :: (0, _, x) :: st => (x < y → jp a kc ks L st G I) ∧ (y ≤ x → nx kc ks L st G I)
  | _ => False
theorem ok_icmp_lt : KOk s_icmp_lt c_icmp_lt := by
  intro xs lay dd kc ks j pc np a b c d z w i len nx jp Q L st G I hd hc hf hn hj
  unfold c_icmp_lt at hc
  unfold s_icmp_lt at hf
  split at hc
  · simp only [Bool.and_eq_true] at hc
    obtain ⟨⟨h1, h2⟩, h3⟩ := hc
    have h1 := of_decide_eq_true h1; have h2 := kbe h2; have h3 := kbe h3
    subst h2; subst h3
    split at hf
    · exact kr_icmp_lt hd h1 (fun q => hj _ _ _ _ _ _ _ (hf.1 q)) (fun q => hn _ _ _ _ _ _ (hf.2 q))
    · exact hf.elim
  · cases hc
def s_icmp_ge : KF := fun a b c d z xs lay dd nx jp Q kc ks L st G I =>
  match st with
  | (0, _, y) :: (0, _, x) :: st => (y ≤ x → jp a kc ks L st G I) ∧ (x < y → nx kc ks L st G I)
  | _ => False
theorem ok_icmp_ge : KOk s_icmp_ge c_icmp_ge := by
  intro xs lay dd kc ks j pc np a b c d z w i len nx jp Q L st G I hd hc hf hn hj
  unfold c_icmp_ge at hc
  unfold s_icmp_ge at hf
  split at hc
  · simp only [Bool.and_eq_true] at hc
    obtain ⟨⟨h1, h2⟩, h3⟩ := hc
    have h1 := of_decide_eq_true h1; have h2 := kbe h2; have h3 := kbe h3
    subst h2; subst h3
    split at hf
    · exact kr_icmp_ge hd h1 (fun q => hj _ _ _ _ _ _ _ (hf.1 q)) (fun q => hn _ _ _ _ _ _ (hf.2 q))
    · exact hf.elim
  · cases hc
def s_icmp_gt : KF := fun a b c d z xs lay dd nx jp Q kc ks L st G I =>
  match st with
  | (0, _, y) :: (0, _, x) :: st => (y < x → jp a kc ks L st G I) ∧ (x ≤ y → nx kc ks L st G I)
  | _ => False
theorem ok_icmp_gt : KOk s_icmp_gt c_icmp_gt := by
  intro xs lay dd kc ks j pc np a b c d z w i len nx jp Q L st G I hd hc hf hn hj
  unfold c_icmp_gt at hc
  unfold s_icmp_gt at hf
  split at hc
  · simp only [Bool.and_eq_true] at hc
    obtain ⟨⟨h1, h2⟩, h3⟩ := hc
    have h1 := of_decide_eq_true h1; have h2 := kbe h2; have h3 := kbe h3
    subst h2; subst h3
    split at hf
    · exact kr_icmp_gt hd h1 (fun q => hj _ _ _ _ _ _ _ (hf.1 q)) (fun q => hn _ _ _ _ _ _ (hf.2 q))
    · exact hf.elim
  · cases hc
def s_icmp_le : KF := fun a b c d z xs lay dd nx jp Q kc ks L st G I =>
  match st with
  | (0, _, y) :: (0, _, x) :: st => (x ≤ y → jp a kc ks L st G I) ∧ (y < x → nx kc ks L st G I)
  | _ => False
theorem ok_icmp_le : KOk s_icmp_le c_icmp_le := by
  intro xs lay dd kc ks j pc np a b c d z w i len nx jp Q L st G I hd hc hf hn hj
  unfold c_icmp_le at hc
  unfold s_icmp_le at hf
  split at hc
  · simp only [Bool.and_eq_true] at hc
    obtain ⟨⟨h1, h2⟩, h3⟩ := hc
    have h1 := of_decide_eq_true h1; have h2 := kbe h2; have h3 := kbe h3
    subst h2; subst h3
    split at hf
    · exact kr_icmp_le hd h1 (fun q => hj _ _ _ _ _ _ _ (hf.1 q)) (fun q => hn _ _ _ _ _ _ (hf.2 q))
    · exact hf.elim
  · cases hc
def s_goto : KF := fun a b c d z xs lay dd nx jp Q kc ks L st G I =>
  jp a kc ks L st G I
theorem ok_goto : KOk s_goto c_goto := by
  intro xs lay dd kc ks j pc np a b c d z w i len nx jp Q L st G I hd hc hf hn hj
  unfold c_goto at hc
  unfold s_goto at hf
  split at hc
  · simp only [Bool.and_eq_true] at hc
    obtain ⟨h1, h2⟩ := hc
    have h1 := of_decide_eq_true h1; have h2 := kbe h2
    subst h2
    exact kr_goto hd h1 (hj _ _ _ _ _ _ _ hf)
  · cases hc
def s_ifnonnull : KF := fun a b c d z xs lay dd nx jp Q kc ks L st G I =>
  match st with
  | (t, _, _) :: st => bif Nat.ble 2 t then (bif Nat.beq t 2 then nx kc ks L st G I else jp a kc ks L st G I) else False
  | _ => False
theorem ok_ifnonnull : KOk s_ifnonnull c_ifnonnull := by
  intro xs lay dd kc ks j pc np a b c d z w i len nx jp Q L st G I hd hc hf hn hj
  unfold c_ifnonnull at hc
  unfold s_ifnonnull at hf
  split at hc
  · simp only [Bool.and_eq_true] at hc
    obtain ⟨⟨h1, h2⟩, h3⟩ := hc
    have h1 := of_decide_eq_true h1; have h2 := kbe h2; have h3 := kbe h3
    subst h2; subst h3
    split at hf
    · rename_i t n x st
      cases hb : Nat.ble 2 t with
      | true =>
        rw [hb] at hf
        refine kr_ifnonnull hd h1 (fun q => ?_) (fun q => ?_) (Nat.le_of_ble_eq_true hb)
        · have hb2 : Nat.beq t 2 = false := by rw [nbeq]; exact decide_eq_false (by omega)
          simp only [cond_true, hb2, cond_false] at hf
          exact hj _ _ _ _ _ _ _ hf
        · have hb2 : Nat.beq t 2 = true := by rw [nbeq]; exact decide_eq_true q
          simp only [cond_true, hb2] at hf
          exact hn _ _ _ _ _ _ hf
      | false => rw [hb] at hf; exact hf.elim
    · exact hf.elim
  · cases hc
def s_tsw : KF := fun a b c d z xs lay dd nx jp Q kc ks L st G I =>
  match st with
  | (0, _, x) :: st => (x < z → jp a kc ks L st G I) ∧ (z + b ≤ x → jp a kc ks L st G I) ∧ ktc x (fun t => jp t kc ks L st G I) z (kTsw c)
  | _ => False
theorem ok_tsw : KOk s_tsw c_tsw := by
  intro xs lay dd kc ks j pc np a b c d z w i len nx jp Q L st G I hd hc hf hn hj
  unfold c_tsw at hc
  unfold s_tsw at hf
  split at hc
  · simp only [Bool.and_eq_true] at hc
    rename_i dflt lo hi offs
    obtain ⟨⟨⟨⟨h1, h2⟩, h3⟩, h4⟩, h5⟩ := hc
    have h1 := of_decide_eq_true h1; have h2 := of_decide_eq_true h2; have h3 := of_decide_eq_true h3; have h4 := kbe h4
    obtain ⟨h6, h7⟩ := ktt_at h5
    subst h1
    split at hf
    · rename_i x st
      obtain ⟨f1, f2, f3⟩ := hf
      by_cases hx1 : x < lo
      · exact kr_tableOut hd (Or.inl hx1) h3 (hj _ _ _ _ _ _ _ (f1 hx1))
      by_cases hx2 : hi < x
      · exact kr_tableOut hd (Or.inr hx2) h3 (hj _ _ _ _ _ _ _ (f2 (by omega)))
      have hlt : (x - lo).toNat < offs.toList.length := by omega
      obtain ⟨t, g1, g2⟩ := h7 (x - lo).toNat offs.toList[(x - lo).toNat] (List.getElem?_eq_getElem hlt)
      refine kr_tableIn hd (by omega) (by omega) (off := offs.toList[(x - lo).toNat]) ?_ g2 (hj _ _ _ _ _ _ _ (ktc_at f3 g1 (by omega)))
      rw [← Array.getElem?_toList]
      exact List.getElem?_eq_getElem hlt
    · exact hf.elim
  · cases hc
def s_lsw : KF := fun a b c d z xs lay dd nx jp Q kc ks L st G I =>
  match st with
  | (0, _, x) :: st => klc x (fun t => jp t kc ks L st G I) (jp a kc ks L st G I) (kLsw c)
  | _ => False
theorem ok_lsw : KOk s_lsw c_lsw := by
  intro xs lay dd kc ks j pc np a b c d z w i len nx jp Q L st G I hd hc hf hn hj
  unfold c_lsw at hc
  unfold s_lsw at hf
  split at hc
  · simp only [Bool.and_eq_true] at hc
    rename_i dflt ps
    obtain ⟨⟨h1, h2⟩, h3⟩ := hc
    have h2 := of_decide_eq_true h2
    split at hf
    · rename_i x st
      obtain ⟨t, g1, g2⟩ := klt_at h2 h3 hf
      refine kr_lookup hd h1 (off := kof dflt x ps.toList) ?_ g1 ?_
      · exact kof_eq _ _ _
      · rcases g2 with g2 | ⟨rfl, g2⟩
        · exact hj _ _ _ _ _ _ _ g2
        · exact hj _ _ _ _ _ _ _ g2
    · exact hf.elim
  · cases hc
def s_iald : KF := fun a b c d z xs lay dd nx jp Q kc ks L st G I =>
  match st with
  | (0, _, i) :: (4, n, q) :: st => (0 ≤ i ∧ i < (n : Int)) ∧ nx kc ks L ((0, 0, I q i) :: st) G I
  | (0, _, i) :: (3, _, q) :: st => (0 ≤ i ∧ i < ((xs q.toNat).1 : Int)) ∧ nx kc ks L ((0, 0, (xs q.toNat).2 i) :: st) G I
  | _ => False
theorem ok_iald : KOk s_iald c_iald := by
  intro xs lay dd kc ks j pc np a b c d z w i len nx jp Q L st G I hd hc hf hn hj
  unfold c_iald at hc
  unfold s_iald at hf
  split at hc
  · simp only [Bool.and_eq_true] at hc
    obtain ⟨h2, h3⟩ := hc
    have h2 := kbe h2; have h3 := kbe h3
    subst h2; subst h3
    split at hf
    · exact kr_iald hd hf.1.1 hf.1.2 (hn _ _ _ _ _ _ hf.2)
    · exact kr_sald hd hf.1.1 hf.1.2 (hn _ _ _ _ _ _ hf.2)
    · exact hf.elim
  · cases hc
def s_bald : KF := fun a b c d z xs lay dd nx jp Q kc ks L st G I =>
  match st with
  | (0, _, i) :: (6, n, q) :: st => (0 ≤ i ∧ i < (n : Int)) ∧ nx kc ks L ((0, 0, I q i) :: st) G I
  | (0, _, i) :: (7, n, q) :: st => (0 ≤ i ∧ i < (n : Int)) ∧ nx kc ks L ((0, 0, I q i) :: st) G I
  | _ => False
theorem ok_bald : KOk s_bald c_bald := by
  intro xs lay dd kc ks j pc np a b c d z w i len nx jp Q L st G I hd hc hf hn hj
  unfold c_bald at hc
  unfold s_bald at hf
  split at hc
  · simp only [Bool.and_eq_true] at hc
    obtain ⟨h2, h3⟩ := hc
    have h2 := kbe h2; have h3 := kbe h3
    subst h2; subst h3
    split at hf
    · exact kr_bald hd hf.1.1 hf.1.2 (hn _ _ _ _ _ _ hf.2)
    · exact kr_zald hd hf.1.1 hf.1.2 (hn _ _ _ _ _ _ hf.2)
    · exact hf.elim
  · cases hc
def s_lald : KF := fun a b c d z xs lay dd nx jp Q kc ks L st G I =>
  match st with
  | (0, _, i) :: (5, n, q) :: st => (0 ≤ i ∧ i < (n : Int)) ∧ nx kc ks L ((1, 0, I q i) :: st) G I
  | _ => False
theorem ok_lald : KOk s_lald c_lald := by
  intro xs lay dd kc ks j pc np a b c d z w i len nx jp Q L st G I hd hc hf hn hj
  unfold c_lald at hc
  unfold s_lald at hf
  split at hc
  · simp only [Bool.and_eq_true] at hc
    obtain ⟨h2, h3⟩ := hc
    have h2 := kbe h2; have h3 := kbe h3
    subst h2; subst h3
    split at hf
    · exact kr_lald hd hf.1.1 hf.1.2 (hn _ _ _ _ _ _ hf.2)
    · exact hf.elim
  · cases hc
def s_alen : KF := fun a b c d z xs lay dd nx jp Q kc ks L st G I =>
  match st with
  | (3, _, q) :: st => nx kc ks L ((0, 0, ((xs q.toNat).1 : Int)) :: st) G I
  | (t, n, _) :: st => bif Nat.ble 4 t && Nat.ble t 9 then nx kc ks L ((0, 0, (n : Int)) :: st) G I else False
  | _ => False
theorem ok_alen : KOk s_alen c_alen := by
  intro xs lay dd kc ks j pc np a b c d z w i len nx jp Q L st G I hd hc hf hn hj
  unfold c_alen at hc
  unfold s_alen at hf
  split at hc
  · simp only [Bool.and_eq_true] at hc
    obtain ⟨h2, h3⟩ := hc
    have h2 := kbe h2; have h3 := kbe h3
    subst h2; subst h3
    split at hf
    · exact kr_slen hd (hn _ _ _ _ _ _ hf)
    · rename_i t n q st _
      cases hb : (Nat.ble 4 t && Nat.ble t 9) with
      | true =>
        rw [hb] at hf
        rw [Bool.and_eq_true] at hb
        have h4 := Nat.le_of_ble_eq_true hb.1
        have h9 := Nat.le_of_ble_eq_true hb.2
        obtain ⟨u, rfl⟩ : ∃ u, t = u + 4 := ⟨t - 4, by omega⟩
        exact kr_alen hd (by omega) (hn _ _ _ _ _ _ hf)
      | false => rw [hb] at hf; exact hf.elim
    · exact hf.elim
  · cases hc
def s_iast : KF := fun a b c d z xs lay dd nx jp Q kc ks L st G I =>
  match st with
  | (0, _, x) :: (0, _, i) :: (4, n, q) :: st => (0 ≤ i ∧ i < (n : Int)) ∧ ∀ I2, I2 = kst I q i x → nx kc ks L st G I2
  | _ => False
theorem ok_iast : KOk s_iast c_iast := by
  intro xs lay dd kc ks j pc np a b c d z w i len nx jp Q L st G I hd hc hf hn hj
  unfold c_iast at hc
  unfold s_iast at hf
  split at hc
  · simp only [Bool.and_eq_true] at hc
    obtain ⟨h2, h3⟩ := hc
    have h2 := kbe h2; have h3 := kbe h3
    subst h2; subst h3
    split at hf
    · exact kr_iast hd hf.1.1 hf.1.2 (hn _ _ _ _ _ _ (hf.2 _ rfl))
    · exact hf.elim
  · cases hc
def s_bast : KF := fun a b c d z xs lay dd nx jp Q kc ks L st G I =>
  match st with
  | (0, _, x) :: (0, _, i) :: (6, n, q) :: st => (0 ≤ i ∧ i < (n : Int)) ∧ ∀ I2, I2 = kst I q i (w8 x) → nx kc ks L st G I2
  | (0, _, x) :: (0, _, i) :: (7, n, q) :: st => (0 ≤ i ∧ i < (n : Int)) ∧ kzr x (∀ I2, I2 = kst I q i x → nx kc ks L st G I2)
  | _ => False
theorem ok_bast : KOk s_bast c_bast := by
  intro xs lay dd kc ks j pc np a b c d z w i len nx jp Q L st G I hd hc hf hn hj
  unfold c_bast at hc
  unfold s_bast at hf
  split at hc
  · simp only [Bool.and_eq_true] at hc
    obtain ⟨h2, h3⟩ := hc
    have h2 := kbe h2; have h3 := kbe h3
    subst h2; subst h3
    split at hf
    · exact kr_bast hd hf.1.1 hf.1.2 (hn _ _ _ _ _ _ (hf.2 _ rfl))
    · exact kr_zast hd hf.1.1 hf.1.2 (kzr_of hf.2).1 (hn _ _ _ _ _ _ ((kzr_of hf.2).2 _ rfl))
    · exact hf.elim
  · cases hc
def s_last : KF := fun a b c d z xs lay dd nx jp Q kc ks L st G I =>
  match st with
  | (1, _, x) :: (0, _, i) :: (5, n, q) :: st => (0 ≤ i ∧ i < (n : Int)) ∧ ∀ I2, I2 = kst I q i x → nx kc ks L st G I2
  | _ => False
theorem ok_last : KOk s_last c_last := by
  intro xs lay dd kc ks j pc np a b c d z w i len nx jp Q L st G I hd hc hf hn hj
  unfold c_last at hc
  unfold s_last at hf
  split at hc
  · simp only [Bool.and_eq_true] at hc
    obtain ⟨h2, h3⟩ := hc
    have h2 := kbe h2; have h3 := kbe h3
    subst h2; subst h3
    split at hf
    · exact kr_last hd hf.1.1 hf.1.2 (hn _ _ _ _ _ _ (hf.2 _ rfl))
    · exact hf.elim
  · cases hc
def s_aald : KF := fun a b c d z xs lay dd nx jp Q kc ks L st G I =>
  match st with
  | (0, _, i) :: (8, n, q) :: st => (0 ≤ i ∧ i < (n : Int)) ∧ (bif lay then nx kc ks L ((13, 0, q + (39 + 4 * i)) :: st) G I else False)
  | (0, _, i) :: (9, n, q) :: st => (0 ≤ i ∧ i < (n : Int)) ∧ (bif lay then nx kc ks L ((15, 0, q + (49 + 2 * i)) :: st) G I else False)
  | _ => False
theorem ok_aald : KOk s_aald c_aald := by
  intro xs lay dd kc ks j pc np a b c d z w i len nx jp Q L st G I hd hc hf hn hj
  unfold c_aald at hc
  unfold s_aald at hf
  split at hc
  · simp only [Bool.and_eq_true] at hc
    obtain ⟨h2, h3⟩ := hc
    have h2 := kbe h2; have h3 := kbe h3
    subst h2; subst h3
    split at hf
    · rename_i n2 i n q st
      obtain ⟨⟨h0, h1⟩, hf⟩ := hf
      cases hlay : lay with
      | true =>
        rw [hlay] at hf
        subst hlay
        have h5 := kr_aaldL (n2 := n2) (t := 8) (w := 0) (f := 39 + 4 * i.toNat) hd h0 h1 rfl (Or.inl rfl) rfl (h := hn _ _ _ _ _ _ (by
          rw [show ((39 + 4 * i.toNat : Nat) : Int) = 39 + 4 * i from by omega]; exact hf))
        exact h5
      | false => rw [hlay] at hf; exact hf.elim
    · rename_i n2 i n q st
      obtain ⟨⟨h0, h1⟩, hf⟩ := hf
      cases hlay : lay with
      | true =>
        rw [hlay] at hf
        subst hlay
        have h5 := kr_aaldL (n2 := n2) (t := 9) (w := 0) (f := 49 + 2 * i.toNat) hd h0 h1 rfl (Or.inr rfl) rfl (h := hn _ _ _ _ _ _ (by
          rw [show ((49 + 2 * i.toNat : Nat) : Int) = 49 + 2 * i from by omega]; exact hf))
        exact h5
      | false => rw [hlay] at hf; exact hf.elim
    · exact hf.elim
  · cases hc
def s_aast : KF := fun a b c d z xs lay dd nx jp Q kc ks L st G I =>
  match st with
  | (13, _, x) :: (0, _, i) :: (8, n, q) :: st => (0 ≤ i ∧ i < (n : Int)) ∧ (bif lay then False else nx kc ks L st (kGr G q i x) I)
  | (15, _, x) :: (0, _, i) :: (9, n, q) :: st => (0 ≤ i ∧ i < (n : Int)) ∧ (bif lay then False else nx kc ks L st (kGr G q i x) I)
  | _ => False
theorem ok_aast : KOk s_aast c_aast := by
  intro xs lay dd kc ks j pc np a b c d z w i len nx jp Q L st G I hd hc hf hn hj
  unfold c_aast at hc
  unfold s_aast at hf
  split at hc
  · simp only [Bool.and_eq_true] at hc
    obtain ⟨h2, h3⟩ := hc
    have h2 := kbe h2; have h3 := kbe h3
    subst h2; subst h3
    split at hf
    · obtain ⟨⟨h0, h1⟩, hf⟩ := hf
      cases hlay : lay with
      | true => rw [hlay] at hf; exact hf.elim
      | false =>
        rw [hlay] at hf
        subst hlay
        exact kr_aast (ci := 3) hd h0 h1 rfl (Or.inl ⟨rfl, rfl⟩) (hn _ _ _ _ _ _ hf)
    · obtain ⟨⟨h0, h1⟩, hf⟩ := hf
      cases hlay : lay with
      | true => rw [hlay] at hf; exact hf.elim
      | false =>
        rw [hlay] at hf
        subst hlay
        exact kr_aast (ci := 5) hd h0 h1 rfl (Or.inr ⟨rfl, rfl⟩) (hn _ _ _ _ _ _ hf)
    · exact hf.elim
  · cases hc
def s_geti : KF := fun a b c d z xs lay dd nx jp Q kc ks L st G I =>
  match st with
  | (t, _, x) :: st => bif Nat.beq t (10 + a) then nx kc ks L ((0, 0, I x b) :: st) G I else False
  | _ => False
theorem ok_geti : KOk s_geti c_geti := by
  intro xs lay dd kc ks j pc np a b c d z w i len nx jp Q L st G I hd hc hf hn hj
  unfold c_geti at hc
  unfold s_geti at hf
  split at hc
  · split at hc
    · rename_i q hq
      simp only [Bool.and_eq_true] at hc
      obtain ⟨⟨⟨⟨h1, h2⟩, h3⟩, h4⟩, h5⟩ := hc
      have h1 := Nat.le_of_ble_eq_true h1
      have h2 := kIs_in h2
      have h4 := kbe h4; have h5 := kbe h5
      subst h4; subst h5
      split at hf
      · rename_i t _ x st
        cases hb : Nat.beq t (10 + a) with
        | true =>
          rw [hb] at hf
          have hb := kbe hb
          subst hb
          exact kr_geti hd hq h1 h2 (by rcases Bool.or_eq_true _ _ ▸ h3 with g | g; exact Or.inl (kbe g); exact Or.inr (kbe g)) (hn _ _ _ _ _ _ hf)
        | false => rw [hb] at hf; exact hf.elim
      · exact hf.elim
    · cases hc
  · cases hc
def s_getr : KF := fun a b c d z xs lay dd nx jp Q kc ks L st G I =>
  match st with
  | (t, _, x) :: st => bif Nat.beq t (10 + a) then (bif lay then nx kc ks L ((c, d, x + z) :: st) G I else 0 ≤ G.2.2 x b ∧ nx kc ks L ((c, (G.2.1 (G.2.2 x b)).2, G.2.2 x b) :: st) G I) else False
  | _ => False
theorem ok_getr : KOk s_getr c_getr := by
  intro xs lay dd kc ks j pc np a b c d z w i len nx jp Q L st G I hd hc hf hn hj
  unfold c_getr at hc
  unfold s_getr at hf
  split at hc
  · split at hc
    · rename_i q hq
      simp only [Bool.and_eq_true] at hc
      obtain ⟨⟨⟨⟨h1, h2⟩, h3⟩, h4⟩, h5⟩ := hc
      have h1 := Nat.le_of_ble_eq_true h1
      have h2 := kIs_in h2
      have h4 := kbe h4; have h5 := kbe h5
      subst h4; subst h5
      obtain ⟨⟨h6, h7⟩, h8⟩ := h3
      split at hf
      · rename_i t _ x st
        cases hb : Nat.beq t (10 + a) with
        | true =>
          rw [hb] at hf
          have hb := kbe hb
          subst hb
          obtain ⟨u, rfl⟩ : ∃ u, c = u + 4 := ⟨c - 4, by have := Nat.le_of_ble_eq_true h7; omega⟩
          cases hlay : lay with
          | true =>
            rw [hlay] at hf
            subst hlay
            split at h8
            · rename_i f l ho
              simp only [Bool.and_eq_true] at h8
              have g1 := kbe h8.1
              have g2 := of_decide_eq_true h8.2
              subst g1; subst g2
              exact kr_getL hd hq h1 h2 rfl (kbe h6) ho (hn _ _ _ _ _ _ hf)
            · cases h8
          | false =>
            rw [hlay] at hf
            subst hlay
            exact kr_getr hd hq h1 h2 (kbe h6) hf.1 (hn _ _ _ _ _ _ hf.2)
        | false => rw [hb] at hf; exact hf.elim
      · exact hf.elim
    · cases hc
  · cases hc
def s_gett : KF := fun a b c d z xs lay dd nx jp Q kc ks L st G I =>
  match st with
  | (11, _, x) :: st => bif lay then nx kc ks L ((6, 120, G.2.2 x 2) :: st) G I else False
  | _ => False
theorem ok_gett : KOk s_gett c_gett := by
  intro xs lay dd kc ks j pc np a b c d z w i len nx jp Q L st G I hd hc hf hn hj
  unfold c_gett at hc
  unfold s_gett at hf
  split at hc
  · simp only [Bool.and_eq_true] at hc
    obtain ⟨⟨h1, h2⟩, h3⟩ := hc
    have h2 := kbe h2; have h3 := kbe h3
    subst h2; subst h3
    split at hf
    · cases hlay : lay with
      | true =>
        rw [hlay] at hf
        subst hlay
        exact kr_getM hd (kIs_in h1) rfl (hn _ _ _ _ _ _ hf)
      | false => rw [hlay] at hf; exact hf.elim
    · exact hf.elim
  · cases hc
def s_gets : KF := fun a b c d z xs lay dd nx jp Q kc ks L st G I =>
  nx kc ks L ((3, 0, (a : Int)) :: st) G I
theorem ok_gets : KOk s_gets c_gets := by
  intro xs lay dd kc ks j pc np a b c d z w i len nx jp Q L st G I hd hc hf hn hj
  unfold c_gets at hc
  unfold s_gets at hf
  split at hc
  · simp only [Bool.and_eq_true] at hc
    obtain ⟨⟨⟨h0, h1⟩, h2⟩, h3⟩ := hc
    have h2 := kbe h2; have h3 := kbe h3
    subst h2; subst h3
    exact kr_gets hd (Nat.le_of_ble_eq_true h0) (kIs_in h1) (hn _ _ _ _ _ _ hf)
  · cases hc
def s_puti : KF := fun a b c d z xs lay dd nx jp Q kc ks L st G I =>
  match st with
  | (0, _, x) :: (t, _, y) :: st => bif Nat.beq t (10 + a) then (∀ I2, I2 = kst I y b x → nx kc ks L st G I2) else False
  | _ => False
theorem ok_puti : KOk s_puti c_puti := by
  intro xs lay dd kc ks j pc np a b c d z w i len nx jp Q L st G I hd hc hf hn hj
  unfold c_puti at hc
  unfold s_puti at hf
  split at hc
  · split at hc
    · rename_i q hq
      simp only [Bool.and_eq_true] at hc
      obtain ⟨⟨⟨⟨h1, h2⟩, h3⟩, h4⟩, h5⟩ := hc
      have h1 := Nat.le_of_ble_eq_true h1
      have h2 := kIs_in h2
      have h4 := kbe h4; have h5 := kbe h5
      subst h4; subst h5
      simp only [Bool.and_eq_true, Bool.not_eq_true'] at h3
      split at hf
      · rename_i x t _ y st
        cases hb : Nat.beq t (10 + a) with
        | true =>
          rw [hb] at hf
          have hb := kbe hb
          subst hb
          exact kr_puti hd hq h1 h2 h3.1 (of_decide_eq_true h3.2) (hn _ _ _ _ _ _ (hf _ rfl))
        | false => rw [hb] at hf; exact hf.elim
      · exact hf.elim
    · cases hc
  · cases hc
def s_putz : KF := fun a b c d z xs lay dd nx jp Q kc ks L st G I =>
  match st with
  | (0, _, x) :: (t, _, y) :: st => bif Nat.beq t (10 + a) then kzr x (∀ I2, I2 = kst I y b x → nx kc ks L st G I2) else False
  | _ => False
theorem ok_putz : KOk s_putz c_putz := by
  intro xs lay dd kc ks j pc np a b c d z w i len nx jp Q L st G I hd hc hf hn hj
  unfold c_putz at hc
  unfold s_putz at hf
  split at hc
  · split at hc
    · rename_i q hq
      simp only [Bool.and_eq_true] at hc
      obtain ⟨⟨⟨⟨h1, h2⟩, h3⟩, h4⟩, h5⟩ := hc
      have h1 := Nat.le_of_ble_eq_true h1
      have h2 := kIs_in h2
      have h4 := kbe h4; have h5 := kbe h5
      subst h4; subst h5
      simp only [Bool.and_eq_true, Bool.not_eq_true'] at h3
      split at hf
      · rename_i x t _ y st
        cases hb : Nat.beq t (10 + a) with
        | true =>
          rw [hb] at hf
          have hb := kbe hb
          subst hb
          exact kr_putz hd hq h1 h2 h3.1 (of_decide_eq_true h3.2) (kzr_of hf).1 (hn _ _ _ _ _ _ ((kzr_of hf).2 _ rfl))
        | false => rw [hb] at hf; exact hf.elim
      · exact hf.elim
    · cases hc
  · cases hc
def s_putr : KF := fun a b c d z xs lay dd nx jp Q kc ks L st G I =>
  match st with
  | (s0, _, x) :: (t, _, y) :: st => bif Nat.beq t (10 + a) && Nat.beq s0 c then (bif lay then False else nx kc ks L st (kGr G y b x) I) else False
  | _ => False
theorem ok_putr : KOk s_putr c_putr := by
  intro xs lay dd kc ks j pc np a b c d z w i len nx jp Q L st G I hd hc hf hn hj
  unfold c_putr at hc
  unfold s_putr at hf
  split at hc
  · split at hc
    · rename_i q hq
      simp only [Bool.and_eq_true] at hc
      obtain ⟨⟨⟨⟨h1, h2⟩, h3⟩, h4⟩, h5⟩ := hc
      have h1 := Nat.le_of_ble_eq_true h1
      have h2 := kIs_in h2
      have h4 := kbe h4; have h5 := kbe h5
      subst h4; subst h5
      obtain ⟨⟨⟨h6, h7⟩, h8⟩, h9⟩ := h3
      split at hf
      · rename_i s0 l0 x t _ y st
        cases hb : (Nat.beq t (10 + a) && Nat.beq s0 c) with
        | true =>
          rw [hb] at hf
          simp only [Bool.and_eq_true] at hb
          have hb1 := kbe hb.1
          have hb2 := kbe hb.2
          subst hb1; subst hb2
          obtain ⟨u, rfl⟩ : ∃ u, s0 = u + 4 := ⟨s0 - 4, by have := Nat.le_of_ble_eq_true h7; omega⟩
          cases hlay : lay with
          | true => rw [hlay] at hf; exact hf.elim
          | false =>
            rw [hlay] at hf
            subst hlay
            cases hfin : (q.2.1 b).2.2.2 with
            | true =>
              rw [hfin] at h9
              simp only [Bool.not_true, Bool.false_or, Bool.and_eq_true] at h9
              exact kr_putF hd hq h1 h2 hfin (kbe h6) (kRef_of h8) rfl (kbe h9.1) (of_decide_eq_true h9.2) (hn _ _ _ _ _ _ hf)
            | false => exact kr_putM hd hq h1 h2 hfin (kbe h6) (kRef_of h8) rfl (hn _ _ _ _ _ _ hf)
        | false => rw [hb] at hf; exact hf.elim
      · exact hf.elim
    · cases hc
  · cases hc
def s_putt : KF := fun a b c d z xs lay dd nx jp Q kc ks L st G I =>
  match st with
  | (6, l0, x) :: (11, _, y) :: st => bif Nat.beq l0 120 then nx kc ks L st (kGr G y 2 x) I else False
  | _ => False
theorem ok_putt : KOk s_putt c_putt := by
  intro xs lay dd kc ks j pc np a b c d z w i len nx jp Q L st G I hd hc hf hn hj
  unfold c_putt at hc
  unfold s_putt at hf
  split at hc
  · simp only [Bool.and_eq_true] at hc
    obtain ⟨⟨h1, h2⟩, h3⟩ := hc
    have h2 := kbe h2; have h3 := kbe h3
    subst h2; subst h3
    split at hf
    · rename_i l0 x _ y st
      cases hb : Nat.beq l0 120 with
      | true =>
        rw [hb] at hf
        exact kr_putT hd (kIs_in h1) (kbe hb) (hn _ _ _ _ _ _ hf)
      | false => rw [hb] at hf; exact hf.elim
    · exact hf.elim
  · cases hc
def s_new : KF := fun a b c d z xs lay dd nx jp Q kc ks L st G I =>
  bif lay then False else bif Nat.ble 1 kc && Nat.ble b ks then nx (kc - 1) (ks - b) L ((10 + a, 0, (G.1 : Int)) :: st) (kGn G (10 + a) b) (kIn0 G I) else False
theorem ok_new : KOk s_new c_new := by
  intro xs lay dd kc ks j pc np a b c d z w i len nx jp Q L st G I hd hc hf hn hj
  unfold c_new at hc
  unfold s_new at hf
  split at hc
  · split at hc
    · rename_i q hq
      simp only [Bool.and_eq_true] at hc
      obtain ⟨⟨⟨⟨⟨h1, h2⟩, h3⟩, h6⟩, h4⟩, h5⟩ := hc
      have h4 := kbe h4; have h5 := kbe h5; have h6 := kbe h6
      subst h4; subst h5; subst h6
      cases hlay : lay with
      | true => rw [hlay] at hf; exact hf.elim
      | false =>
        rw [hlay] at hf
        subst hlay
        cases hb : (Nat.ble 1 kc && Nat.ble q.2.2 ks) with
        | true =>
          rw [hb] at hf
          simp only [Bool.and_eq_true] at hb
          have b1 := Nat.le_of_ble_eq_true hb.1
          have b2 := Nat.le_of_ble_eq_true hb.2
          obtain ⟨kc, rfl⟩ : ∃ n, kc = n + 1 := ⟨kc - 1, by omega⟩
          obtain ⟨ks, rfl⟩ : ∃ n, ks = n + q.2.2 := ⟨ks - q.2.2, by omega⟩
          refine kr_new hd rfl hq (kIs_in h1) (kIs_in h2) (kIs_in h3) (hn _ _ _ _ _ _ ?_)
          simpa using hf
        | false => rw [hb] at hf; exact hf.elim
    · cases hc
  · cases hc
def s_newa : KF := fun a b c d z xs lay dd nx jp Q kc ks L st G I =>
  match st with
  | (0, _, x) :: st => bif lay then False else bif Nat.ble 1 kc && Nat.ble b ks && Nat.blt b 60000 && decide (x = (b : Int)) then nx (kc - 1) (ks - b) L ((a, b, (G.1 : Int)) :: st) (kGn G a b) (kIn0 G I) else False
  | _ => False
theorem ok_newa : KOk s_newa c_newa := by
  intro xs lay dd kc ks j pc np a b c d z w i len nx jp Q L st G I hd hc hf hn hj
  unfold c_newa at hc
  unfold s_newa at hf
  split at hc
  · simp only [Bool.and_eq_true] at hc
    obtain ⟨⟨⟨⟨⟨h1, h6⟩, h7⟩, h4⟩, h2⟩, h3⟩ := hc
    have h2 := kbe h2; have h3 := kbe h3
    subst h2; subst h3
    split at hf
    · rename_i n2 x st
      cases hlay : lay with
      | true => rw [hlay] at hf; exact hf.elim
      | false =>
        rw [hlay] at hf
        subst hlay
        cases hb : (Nat.ble 1 kc && Nat.ble b ks && Nat.blt b 60000 && decide (x = (b : Int))) with
        | true =>
          rw [hb] at hf
          simp only [Bool.and_eq_true] at hb
          obtain ⟨⟨⟨b1, b2⟩, b3⟩, b4⟩ := hb
          have b1 := Nat.le_of_ble_eq_true b1
          have b2 := Nat.le_of_ble_eq_true b2
          have b4 := of_decide_eq_true b4
          subst b4
          obtain ⟨kc, rfl⟩ : ∃ n, kc = n + 1 := ⟨kc - 1, by omega⟩
          obtain ⟨ks, rfl⟩ : ∃ n, ks = n + b := ⟨ks - b, by omega⟩
          refine kr_newa hd rfl ⟨Nat.le_of_ble_eq_true h6, Nat.le_of_ble_eq_true h7⟩ (of_decide_eq_true h1) (Nat.le_of_ble_eq_true b3) (kIs_in h4) (hn _ _ _ _ _ _ ?_)
          simpa using hf
        | false => rw [hb] at hf; exact hf.elim
    · exact hf.elim
  · cases hc
def s_anewa : KF := fun a b c d z xs lay dd nx jp Q kc ks L st G I =>
  match st with
  | (0, _, x) :: st => bif lay then False else bif Nat.ble 1 kc && Nat.ble b ks && Nat.blt b 60000 && decide (x = (b : Int)) then nx (kc - 1) (ks - b) L ((a, b, (G.1 : Int)) :: st) (kGn G a b) (kIn0 G I) else False
  | _ => False
theorem ok_anewa : KOk s_anewa c_anewa := by
  intro xs lay dd kc ks j pc np a b c d z w i len nx jp Q L st G I hd hc hf hn hj
  unfold c_anewa at hc
  unfold s_anewa at hf
  split at hc
  · simp only [Bool.and_eq_true] at hc
    obtain ⟨⟨⟨h1, h6⟩, h2⟩, h3⟩ := hc
    have h2 := kbe h2; have h3 := kbe h3
    subst h2; subst h3
    split at hf
    · rename_i n2 x st
      cases hlay : lay with
      | true => rw [hlay] at hf; exact hf.elim
      | false =>
        rw [hlay] at hf
        subst hlay
        cases hb : (Nat.ble 1 kc && Nat.ble b ks && Nat.blt b 60000 && decide (x = (b : Int))) with
        | true =>
          rw [hb] at hf
          simp only [Bool.and_eq_true] at hb
          obtain ⟨⟨⟨b1, b2⟩, b3⟩, b4⟩ := hb
          have b1 := Nat.le_of_ble_eq_true b1
          have b2 := Nat.le_of_ble_eq_true b2
          have b4 := of_decide_eq_true b4
          subst b4
          obtain ⟨kc, rfl⟩ : ∃ n, kc = n + 1 := ⟨kc - 1, by omega⟩
          obtain ⟨ks, rfl⟩ : ∃ n, ks = n + b := ⟨ks - b, by omega⟩
          have h8 : (a = 8 ∧ (bif Nat.beq a 8 then RX3 else RX5) = RX3) ∨ (a = 9 ∧ (bif Nat.beq a 8 then RX3 else RX5) = RX5) := by
            rw [Bool.or_eq_true] at h6
            rcases h6 with g | g
            · have := kbe g; subst this; exact Or.inl ⟨rfl, rfl⟩
            · have := kbe g; subst this; exact Or.inr ⟨rfl, rfl⟩
          refine kr_anewa hd rfl h8 (Nat.le_of_ble_eq_true b3) (kIs_in h1) (hn _ _ _ _ _ _ ?_)
          simpa using hf
        | false => rw [hb] at hf; exact hf.elim
    · exact hf.elim
  · cases hc
def s_objinit : KF := fun a b c d z xs lay dd nx jp Q kc ks L st G I =>
  match st with
  | (t, _, _) :: st => bif Nat.ble 4 t && Nat.ble st.length 4 then nx kc ks L st G I else False
  | _ => False
theorem ok_objinit : KOk s_objinit c_objinit := by
  intro xs lay dd kc ks j pc np a b c d z w i len nx jp Q L st G I hd hc hf hn hj
  unfold c_objinit at hc
  unfold s_objinit at hf
  split at hc
  · simp only [Bool.and_eq_true] at hc
    obtain ⟨⟨⟨⟨h1, h4⟩, h5⟩, h2⟩, h3⟩ := hc
    have h2 := kbe h2; have h3 := kbe h3
    subst h2; subst h3
    split at hf
    · rename_i t n x st
      cases hb : (Nat.ble 4 t && Nat.ble st.length 4) with
      | true =>
        rw [hb] at hf
        simp only [Bool.and_eq_true] at hb
        have b1 := Nat.le_of_ble_eq_true hb.1
        obtain ⟨u, rfl⟩ : ∃ u, t = u + 4 := ⟨t - 4, by omega⟩
        exact kr_objinit hd (Nat.le_of_ble_eq_true hb.2) (kIs_in h1) (kIs_in h4) (kIs_in h5) (hn _ _ _ _ _ _ hf)
      | false => rw [hb] at hf; exact hf.elim
    · exact hf.elim
  · cases hc
def s_inv : KF := fun a b c d z xs lay dd nx jp Q kc ks L st G I =>
  match dd with
  | 0 => False
  | d0 + 1 => match kpop b st [] with
    | (as, rest) => match as with
      | (t, nn, v) :: As => bif Nat.beq t (10 + c) then (bif Nat.ble b st.length && decide ((kwords ((t, nn, v) :: As) : Int) ≤ z) && Nat.ble rest.length 4 then kWP xs lay d0 0 0 a 0 (kargs 0 ((t, nn, v) :: As)) [] G I (fun x G' I' => nx kc ks L ((bif Nat.beq d 2 then [] else [(d, krn d, x)]) ++ rest) G' I') else False) else False
      | [] => False
theorem ok_inv : KOk s_inv c_inv := by
  intro xs lay dd kc ks j pc np a b c d z w i len nx jp Q L st G I hd hc hf hn hj
  unfold c_inv at hc
  unfold s_inv at hf
  split at hc
  · simp only [Bool.and_eq_true] at hc
    obtain ⟨⟨⟨⟨⟨⟨⟨⟨g0, g1⟩, g2⟩, g3⟩, g4⟩, g5⟩, g6⟩, gl⟩, gn⟩ := hc
    have gl := kbe gl; have gn := kbe gn; have g2 := kbe g2; have g3 := kbe g3
    subst gl; subst gn
    split at hf
    · exact hf.elim
    · rename_i d0
      split at hf
      rename_i as rest hpop
      split at hf
      · rename_i t nn v As
        cases ht : Nat.beq t (10 + c) with
        | true =>
          rw [ht] at hf
          have ht := kbe ht
          subst ht
          cases hb : (Nat.ble b st.length && decide ((kwords ((10 + c, nn, v) :: As) : Int) ≤ z) && Nat.ble rest.length 4) with
          | true =>
            rw [hb] at hf
            simp only [Bool.and_eq_true] at hb
            obtain ⟨⟨b1, b2⟩, b3⟩ := hb
            have b2 := of_decide_eq_true b2
            have hcall : kCall a b st ((10 + c, nn, v) :: As) rest := ⟨g0, Nat.le_of_ble_eq_true b1, hpop, by have e := of_decide_eq_true g1; omega, Nat.le_of_ble_eq_true b3⟩
            have hf2 := kWP.imp hf (fun x G' I' hq => by
              have hq2 := hn _ _ _ _ _ _ hq
              rw [← kAok_of g6] at hq2
              exact hq2)
            have h9 := kr_inv (kc2 := 0) (ks2 := 0) hd hcall rfl (of_decide_eq_true g5) g3 g2 (kIs_in g4) hf2
            rw [Nat.zero_add, Nat.zero_add] at h9
            exact h9
          | false => rw [hb] at hf; exact hf.elim
        | false => rw [ht] at hf; exact hf.elim
      · exact hf.elim
  · cases hc
def s_invS : KF := fun a b c d z xs lay dd nx jp Q kc ks L st G I =>
  match dd with
  | 0 => False
  | d0 + 1 => match kpop b st [] with
    | (as, rest) => bif Nat.ble b st.length && decide ((kwords as : Int) ≤ z) && Nat.ble rest.length 4 then kWP xs lay d0 0 0 a 0 (kargs 0 as) [] G I (fun x G' I' => nx kc ks L ((bif Nat.beq d 2 then [] else [(d, krn d, x)]) ++ rest) G' I') else False
theorem ok_invS : KOk s_invS c_invS := by
  intro xs lay dd kc ks j pc np a b c d z w i len nx jp Q L st G I hd hc hf hn hj
  unfold c_invS at hc
  unfold s_invS at hf
  split at hc
  · simp only [Bool.and_eq_true] at hc
    obtain ⟨⟨⟨⟨⟨⟨⟨g0, g1⟩, g2⟩, g3⟩, g4⟩, g6⟩, gl⟩, gn⟩ := hc
    have gl := kbe gl; have gn := kbe gn; have g2 := kbe g2; have g3 := kbe g3
    subst gl; subst gn
    split at hf
    · exact hf.elim
    · rename_i d0
      split at hf
      rename_i as rest hpop
      cases hb : (Nat.ble b st.length && decide ((kwords as : Int) ≤ z) && Nat.ble rest.length 4) with
      | true =>
        rw [hb] at hf
        simp only [Bool.and_eq_true] at hb
        obtain ⟨⟨b1, b2⟩, b3⟩ := hb
        have b2 := of_decide_eq_true b2
        have hcall : kCall a b st as rest := ⟨g0, Nat.le_of_ble_eq_true b1, hpop, by have e := of_decide_eq_true g1; omega, Nat.le_of_ble_eq_true b3⟩
        have hf2 := kWP.imp hf (fun x G' I' hq => by
          have hq2 := hn _ _ _ _ _ _ hq
          rw [← kAok_of g6] at hq2
          exact hq2)
        have h9 := kr_invS (kc2 := 0) (ks2 := 0) hd hcall g3 g2 (kIs_in g4) hf2
        rw [Nat.zero_add, Nat.zero_add] at h9
        exact h9
      | false => rw [hb] at hf; exact hf.elim
  · cases hc
def s_invSN : KF := fun a b c d z xs lay dd nx jp Q kc ks L st G I =>
  match dd with
  | 0 => False
  | d0 + 1 => match kpop b st [] with
    | (as, rest) => bif Nat.ble b st.length && decide ((kwords as : Int) ≤ z) && Nat.ble rest.length 4 then kWP xs lay d0 0 0 a 0 (kargs 0 as) [] G I (fun x G' I' => nx kc ks L ((bif Nat.beq d 2 then [] else [(d, krn d, x)]) ++ rest) G' I') else False
theorem ok_invSN : KOk s_invSN c_invSN := by
  intro xs lay dd kc ks j pc np a b c d z w i len nx jp Q L st G I hd hc hf hn hj
  unfold c_invSN at hc
  unfold s_invSN at hf
  split at hc
  · simp only [Bool.and_eq_true] at hc
    obtain ⟨⟨⟨⟨⟨⟨⟨g0, g1⟩, g2⟩, g3⟩, g4⟩, g6⟩, gl⟩, gn⟩ := hc
    have gl := kbe gl; have gn := kbe gn; have g2 := kbe g2; have g3 := kbe g3
    subst gl; subst gn
    split at hf
    · exact hf.elim
    · rename_i d0
      split at hf
      rename_i as rest hpop
      cases hb : (Nat.ble b st.length && decide ((kwords as : Int) ≤ z) && Nat.ble rest.length 4) with
      | true =>
        rw [hb] at hf
        simp only [Bool.and_eq_true] at hb
        obtain ⟨⟨b1, b2⟩, b3⟩ := hb
        have b2 := of_decide_eq_true b2
        have hcall : kCall a b st as rest := ⟨g0, Nat.le_of_ble_eq_true b1, hpop, by have e := of_decide_eq_true g1; omega, Nat.le_of_ble_eq_true b3⟩
        have hf2 := kWP.imp hf (fun x G' I' hq => by
          have hq2 := hn _ _ _ _ _ _ hq
          rw [← kAok_of g6] at hq2
          exact hq2)
        have h9 := kr_invSN (kc2 := 0) (ks2 := 0) hd hcall g3 g2 (kIsN_in g4) hf2
        rw [Nat.zero_add, Nat.zero_add] at h9
        exact h9
      | false => rw [hb] at hf; exact hf.elim
  · cases hc
def s_invI : KF := fun a b c d z xs lay dd nx jp Q kc ks L st G I =>
  match dd with
  | 0 => False
  | d0 + 1 => match kpop b st [] with
    | (as, rest) => match as with
      | (t, nn, v) :: As => bif Nat.ble 4 t then (bif Nat.ble b st.length && decide ((kwords ((t, nn, v) :: As) : Int) ≤ z) && Nat.ble rest.length 4 && Nat.ble c kc && Nat.ble d ks then kWP xs lay d0 c d a 0 (kargs 0 ((t, nn, v) :: As)) [] G I (fun x G' I' => nx (kc - c) (ks - d) L rest G' I') else False) else False
      | [] => False
theorem ok_invI : KOk s_invI c_invI := by
  intro xs lay dd kc ks j pc np a b c d z w i len nx jp Q L st G I hd hc hf hn hj
  unfold c_invI at hc
  unfold s_invI at hf
  split at hc
  · simp only [Bool.and_eq_true] at hc
    obtain ⟨⟨⟨⟨⟨⟨g0, g1⟩, g2⟩, g3⟩, g4⟩, gl⟩, gn⟩ := hc
    have gl := kbe gl; have gn := kbe gn; have g2 := kbe g2; have g3 := kbe g3
    subst gl; subst gn
    split at hf
    · exact hf.elim
    · rename_i d0
      split at hf
      rename_i as rest hpop
      split at hf
      · rename_i t nn v As
        cases ht : Nat.ble 4 t with
        | true =>
          rw [ht] at hf
          have ht := Nat.le_of_ble_eq_true ht
          obtain ⟨u, rfl⟩ : ∃ u, t = u + 4 := ⟨t - 4, by omega⟩
          cases hb : (Nat.ble b st.length && decide ((kwords ((u + 4, nn, v) :: As) : Int) ≤ z) && Nat.ble rest.length 4 && Nat.ble c kc && Nat.ble d ks) with
          | true =>
            rw [hb] at hf
            simp only [Bool.and_eq_true] at hb
            obtain ⟨⟨⟨⟨b1, b2⟩, b3⟩, b4⟩, b5⟩ := hb
            have b2 := of_decide_eq_true b2
            have b4 := Nat.le_of_ble_eq_true b4
            have b5 := Nat.le_of_ble_eq_true b5
            have hcall : kCall a b st ((u + 4, nn, v) :: As) rest := ⟨g0, Nat.le_of_ble_eq_true b1, hpop, by have e := of_decide_eq_true g1; omega, Nat.le_of_ble_eq_true b3⟩
            have hr0 : ∀ x, koutl a x = [] := fun x => by unfold koutl; rw [((kOkM_of g0).2.2.2.2.2.2.2.2.2 g3).2.2]
            have hf2 := kWP.imp hf (fun x G' I' hq => by
              have hq2 := hn _ _ _ _ _ _ hq
              rw [← List.nil_append rest, ← hr0 x] at hq2
              exact hq2)
            have h9 := kr_invI hd hcall rfl g3 g2 (kIs_in g4) hf2
            rw [show c + (kc - c) = kc by omega, show d + (ks - d) = ks by omega] at h9
            exact h9
          | false => rw [hb] at hf; exact hf.elim
        | false => rw [ht] at hf; exact hf.elim
      · exact hf.elim
  · cases hc
def s_invIN : KF := fun a b c d z xs lay dd nx jp Q kc ks L st G I =>
  match dd with
  | 0 => False
  | d0 + 1 => match kpop b st [] with
    | (as, rest) => match as with
      | (t, nn, v) :: As => bif Nat.ble 4 t then (bif Nat.ble b st.length && decide ((kwords ((t, nn, v) :: As) : Int) ≤ z) && Nat.ble rest.length 4 && Nat.ble c kc && Nat.ble d ks then kWP xs lay d0 c d a 0 (kargs 0 ((t, nn, v) :: As)) [] G I (fun x G' I' => nx (kc - c) (ks - d) L rest G' I') else False) else False
      | [] => False
theorem ok_invIN : KOk s_invIN c_invIN := by
  intro xs lay dd kc ks j pc np a b c d z w i len nx jp Q L st G I hd hc hf hn hj
  unfold c_invIN at hc
  unfold s_invIN at hf
  split at hc
  · simp only [Bool.and_eq_true] at hc
    obtain ⟨⟨⟨⟨⟨⟨g0, g1⟩, g2⟩, g3⟩, g4⟩, gl⟩, gn⟩ := hc
    have gl := kbe gl; have gn := kbe gn; have g2 := kbe g2; have g3 := kbe g3
    subst gl; subst gn
    split at hf
    · exact hf.elim
    · rename_i d0
      split at hf
      rename_i as rest hpop
      split at hf
      · rename_i t nn v As
        cases ht : Nat.ble 4 t with
        | true =>
          rw [ht] at hf
          have ht := Nat.le_of_ble_eq_true ht
          obtain ⟨u, rfl⟩ : ∃ u, t = u + 4 := ⟨t - 4, by omega⟩
          cases hb : (Nat.ble b st.length && decide ((kwords ((u + 4, nn, v) :: As) : Int) ≤ z) && Nat.ble rest.length 4 && Nat.ble c kc && Nat.ble d ks) with
          | true =>
            rw [hb] at hf
            simp only [Bool.and_eq_true] at hb
            obtain ⟨⟨⟨⟨b1, b2⟩, b3⟩, b4⟩, b5⟩ := hb
            have b2 := of_decide_eq_true b2
            have b4 := Nat.le_of_ble_eq_true b4
            have b5 := Nat.le_of_ble_eq_true b5
            have hcall : kCall a b st ((u + 4, nn, v) :: As) rest := ⟨g0, Nat.le_of_ble_eq_true b1, hpop, by have e := of_decide_eq_true g1; omega, Nat.le_of_ble_eq_true b3⟩
            have hr0 : ∀ x, koutl a x = [] := fun x => by unfold koutl; rw [((kOkM_of g0).2.2.2.2.2.2.2.2.2 g3).2.2]
            have hf2 := kWP.imp hf (fun x G' I' hq => by
              have hq2 := hn _ _ _ _ _ _ hq
              rw [← List.nil_append rest, ← hr0 x] at hq2
              exact hq2)
            have h9 := kr_invIN hd hcall rfl g3 g2 (kIsN_in g4) hf2
            rw [show c + (kc - c) = kc by omega, show d + (ks - d) = ks by omega] at h9
            exact h9
          | false => rw [hb] at hf; exact hf.elim
        | false => rw [ht] at hf; exact hf.elim
      · exact hf.elim
  · cases hc
def s_copy : KF := fun a b c d z xs lay dd nx jp Q kc ks L st G I =>
  match st with
  | (0, _, n) :: (0, _, dp) :: (4, w2, q2) :: (0, _, sp) :: (4, w1, q1) :: st => (0 ≤ sp ∧ 0 ≤ dp ∧ 0 ≤ n ∧ sp + n ≤ (w1 : Int) ∧ dp + n ≤ (w2 : Int)) ∧ (bif Nat.ble st.length 4 then (∀ I2, I2 = kcpy I q1 sp q2 dp n → nx kc ks L st G I2) else False)
  | (0, _, n) :: (0, _, dp) :: (6, w2, q2) :: (0, _, sp) :: (6, w1, q1) :: st => (0 ≤ sp ∧ 0 ≤ dp ∧ 0 ≤ n ∧ sp + n ≤ (w1 : Int) ∧ dp + n ≤ (w2 : Int)) ∧ (bif Nat.ble st.length 4 then (∀ I2, I2 = kcpy I q1 sp q2 dp n → nx kc ks L st G I2) else False)
  | (0, _, n) :: (0, _, dp) :: (5, w2, q2) :: (0, _, sp) :: (5, w1, q1) :: st => (0 ≤ sp ∧ 0 ≤ dp ∧ 0 ≤ n ∧ sp + n ≤ (w1 : Int) ∧ dp + n ≤ (w2 : Int)) ∧ (bif Nat.ble st.length 4 then (∀ I2, I2 = kcpy I q1 sp q2 dp n → nx kc ks L st G I2) else False)
  | _ => False
theorem ok_copy : KOk s_copy c_copy := by
  intro xs lay dd kc ks j pc np a b c d z w i len nx jp Q L st G I hd hc hf hn hj
  unfold c_copy at hc
  unfold s_copy at hf
  split at hc
  · simp only [Bool.and_eq_true] at hc
    obtain ⟨⟨⟨⟨⟨g1, g2⟩, g3⟩, g4⟩, h2⟩, h3⟩ := hc
    have h2 := kbe h2; have h3 := kbe h3
    subst h2; subst h3
    split at hf
    · rename_i st
      obtain ⟨⟨f0, f1, f2, f3, f4⟩, hf⟩ := hf
      cases hb : Nat.ble st.length 4 with
      | true => rw [hb] at hf; exact kr_copyi hd f0 f1 f2 f3 f4 (Nat.le_of_ble_eq_true hb) (kIs_in g1) (kIs_in g2) (kIs_in g3) (kIs_in g4) (hn _ _ _ _ _ _ (hf _ rfl))
      | false => rw [hb] at hf; exact hf.elim
    · rename_i st
      obtain ⟨⟨f0, f1, f2, f3, f4⟩, hf⟩ := hf
      cases hb : Nat.ble st.length 4 with
      | true => rw [hb] at hf; exact kr_copyb hd f0 f1 f2 f3 f4 (Nat.le_of_ble_eq_true hb) (kIs_in g1) (kIs_in g2) (kIs_in g3) (kIs_in g4) (hn _ _ _ _ _ _ (hf _ rfl))
      | false => rw [hb] at hf; exact hf.elim
    · rename_i st
      obtain ⟨⟨f0, f1, f2, f3, f4⟩, hf⟩ := hf
      cases hb : Nat.ble st.length 4 with
      | true => rw [hb] at hf; exact kr_copyl hd f0 f1 f2 f3 f4 (Nat.le_of_ble_eq_true hb) (kIs_in g1) (kIs_in g2) (kIs_in g3) (kIs_in g4) (hn _ _ _ _ _ _ (hf _ rfl))
      | false => rw [hb] at hf; exact hf.elim
    · exact hf.elim
  · cases hc
def s_mmax : KF := fun a b c d z xs lay dd nx jp Q kc ks L st G I =>
  match st with
  | (0, _, y) :: (0, _, x) :: st => bif Nat.ble st.length 4 then nx kc ks L ((0, 0, if x < y then y else x) :: st) G I else False
  | _ => False
theorem ok_mmax : KOk s_mmax c_mmax := by
  intro xs lay dd kc ks j pc np a b c d z w i len nx jp Q L st G I hd hc hf hn hj
  unfold c_mmax at hc
  unfold s_mmax at hf
  split at hc
  · simp only [Bool.and_eq_true] at hc
    obtain ⟨⟨⟨⟨⟨g1, g2⟩, g3⟩, g4⟩, h2⟩, h3⟩ := hc
    have h2 := kbe h2; have h3 := kbe h3
    subst h2; subst h3
    split at hf
    · rename_i st
      cases hb : Nat.ble st.length 4 with
      | true => rw [hb] at hf; exact kr_mmax hd (Nat.le_of_ble_eq_true hb) (kIs_in g1) (kIs_in g2) (kIs_in g3) (kIs_in g4) (hn _ _ _ _ _ _ hf)
      | false => rw [hb] at hf; exact hf.elim
    · exact hf.elim
  · cases hc
def s_mmin : KF := fun a b c d z xs lay dd nx jp Q kc ks L st G I =>
  match st with
  | (0, _, y) :: (0, _, x) :: st => bif Nat.ble st.length 4 then nx kc ks L ((0, 0, if y < x then y else x) :: st) G I else False
  | _ => False
theorem ok_mmin : KOk s_mmin c_mmin := by
  intro xs lay dd kc ks j pc np a b c d z w i len nx jp Q L st G I hd hc hf hn hj
  unfold c_mmin at hc
  unfold s_mmin at hf
  split at hc
  · simp only [Bool.and_eq_true] at hc
    obtain ⟨⟨⟨⟨⟨g1, g2⟩, g3⟩, g4⟩, h2⟩, h3⟩ := hc
    have h2 := kbe h2; have h3 := kbe h3
    subst h2; subst h3
    split at hf
    · rename_i st
      cases hb : Nat.ble st.length 4 with
      | true => rw [hb] at hf; exact kr_mmin hd (Nat.le_of_ble_eq_true hb) (kIs_in g1) (kIs_in g2) (kIs_in g3) (kIs_in g4) (hn _ _ _ _ _ _ hf)
      | false => rw [hb] at hf; exact hf.elim
    · exact hf.elim
  · cases hc
def s_mabs : KF := fun a b c d z xs lay dd nx jp Q kc ks L st G I =>
  match st with
  | (0, _, x) :: st => bif Nat.ble st.length 4 then nx kc ks L ((0, 0, w32 (if 0 ≤ x then x else 0 - x)) :: st) G I else False
  | _ => False
theorem ok_mabs : KOk s_mabs c_mabs := by
  intro xs lay dd kc ks j pc np a b c d z w i len nx jp Q L st G I hd hc hf hn hj
  unfold c_mabs at hc
  unfold s_mabs at hf
  split at hc
  · simp only [Bool.and_eq_true] at hc
    obtain ⟨⟨⟨⟨⟨g1, g2⟩, g3⟩, g4⟩, h2⟩, h3⟩ := hc
    have h2 := kbe h2; have h3 := kbe h3
    subst h2; subst h3
    split at hf
    · rename_i st
      cases hb : Nat.ble st.length 4 with
      | true => rw [hb] at hf; exact kr_mabs hd (Nat.le_of_ble_eq_true hb) (kIs_in g1) (kIs_in g2) (kIs_in g3) (kIs_in g4) (hn _ _ _ _ _ _ hf)
      | false => rw [hb] at hf; exact hf.elim
    · exact hf.elim
  · cases hc
def s_iret : KF := fun a b c d z xs lay dd nx jp Q kc ks L st G I =>
  match st with
  | [(0, _, x)] => bif Nat.beq kc 0 && Nat.beq ks 0 then Q x G I else False
  | _ => False
theorem ok_iret : KOk s_iret c_iret := by
  intro xs lay dd kc ks j pc np a b c d z w i len nx jp Q L st G I hd hc hf hn hj
  unfold c_iret at hc
  unfold s_iret at hf
  split at hc
  · simp only [Bool.and_eq_true] at hc
    obtain ⟨g1, h2⟩ := hc
    have h2 := kbe h2
    subst h2
    split at hf
    · cases hb : (Nat.beq kc 0 && Nat.beq ks 0) with
      | true =>
        rw [hb] at hf
        simp only [Bool.and_eq_true] at hb
        have b1 := kbe hb.1
        have b2 := kbe hb.2
        subst b1; subst b2
        exact kr_iret (st := []) (kc := 0) (ks := 0) hd (of_decide_eq_true g1) hf
      | false => rw [hb] at hf; exact hf.elim
    · exact hf.elim
  · cases hc
def s_zret : KF := fun a b c d z xs lay dd nx jp Q kc ks L st G I =>
  match st with
  | [(0, _, x)] => bif Nat.beq kc 0 && Nat.beq ks 0 then kzr x (Q x G I) else False
  | _ => False
theorem ok_zret : KOk s_zret c_zret := by
  intro xs lay dd kc ks j pc np a b c d z w i len nx jp Q L st G I hd hc hf hn hj
  unfold c_zret at hc
  unfold s_zret at hf
  split at hc
  · simp only [Bool.and_eq_true] at hc
    obtain ⟨g1, h2⟩ := hc
    have h2 := kbe h2
    subst h2
    split at hf
    · cases hb : (Nat.beq kc 0 && Nat.beq ks 0) with
      | true =>
        rw [hb] at hf
        simp only [Bool.and_eq_true] at hb
        have b1 := kbe hb.1
        have b2 := kbe hb.2
        subst b1; subst b2
        exact kr_zret (st := []) (kc := 0) (ks := 0) hd (of_decide_eq_true g1) (kzr_of hf).1 (kzr_of hf).2
      | false => rw [hb] at hf; exact hf.elim
    · exact hf.elim
  · cases hc
def s_lret : KF := fun a b c d z xs lay dd nx jp Q kc ks L st G I =>
  match st with
  | [(1, _, x)] => bif Nat.beq kc 0 && Nat.beq ks 0 then Q x G I else False
  | _ => False
theorem ok_lret : KOk s_lret c_lret := by
  intro xs lay dd kc ks j pc np a b c d z w i len nx jp Q L st G I hd hc hf hn hj
  unfold c_lret at hc
  unfold s_lret at hf
  split at hc
  · simp only [Bool.and_eq_true] at hc
    obtain ⟨g1, h2⟩ := hc
    have h2 := kbe h2
    subst h2
    split at hf
    · cases hb : (Nat.beq kc 0 && Nat.beq ks 0) with
      | true =>
        rw [hb] at hf
        simp only [Bool.and_eq_true] at hb
        have b1 := kbe hb.1
        have b2 := kbe hb.2
        subst b1; subst b2
        exact kr_lret (st := []) (kc := 0) (ks := 0) hd (of_decide_eq_true g1) hf
      | false => rw [hb] at hf; exact hf.elim
    · exact hf.elim
  · cases hc
def s_vret : KF := fun a b c d z xs lay dd nx jp Q kc ks L st G I =>
  match st with
  | [] => bif Nat.beq kc 0 && Nat.beq ks 0 then Q 0 G I else False
  | _ => False
theorem ok_vret : KOk s_vret c_vret := by
  intro xs lay dd kc ks j pc np a b c d z w i len nx jp Q L st G I hd hc hf hn hj
  unfold c_vret at hc
  unfold s_vret at hf
  split at hc
  · simp only [Bool.and_eq_true] at hc
    obtain ⟨g1, h2⟩ := hc
    have h2 := kbe h2
    subst h2
    split at hf
    · cases hb : (Nat.beq kc 0 && Nat.beq ks 0) with
      | true =>
        rw [hb] at hf
        simp only [Bool.and_eq_true] at hb
        have b1 := kbe hb.1
        have b2 := kbe hb.2
        subst b1; subst b2
        exact kr_vret (st := []) (kc := 0) (ks := 0) hd (of_decide_eq_true g1) hf
      | false => rw [hb] at hf; exact hf.elim
    · exact hf.elim
  · cases hc
def s_aret : KF := fun a b c d z xs lay dd nx jp Q kc ks L st G I =>
  match st with
  | [(4, 43, x)] => bif Nat.beq kc 0 && Nat.beq ks 0 then Q x G I else False
  | _ => False
theorem ok_aret : KOk s_aret c_aret := by
  intro xs lay dd kc ks j pc np a b c d z w i len nx jp Q L st G I hd hc hf hn hj
  unfold c_aret at hc
  unfold s_aret at hf
  split at hc
  · simp only [Bool.and_eq_true] at hc
    obtain ⟨g1, h2⟩ := hc
    have h2 := kbe h2
    subst h2
    split at hf
    · cases hb : (Nat.beq kc 0 && Nat.beq ks 0) with
      | true =>
        rw [hb] at hf
        simp only [Bool.and_eq_true] at hb
        have b1 := kbe hb.1
        have b2 := kbe hb.2
        subst b1; subst b2
        exact kr_aret (st := []) (kc := 0) (ks := 0) hd (of_decide_eq_true g1) rfl hf
      | false => rw [hb] at hf; exact hf.elim
    · exact hf.elim
  · cases hc
