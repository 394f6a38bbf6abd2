/-! THE CODE AS DATA: an entry: place, operation, five numbers, a word's place -/
abbrev KE : Type := Nat × Nat × Nat × Nat × Nat × Nat × Int × Nat
abbrev KK : Type := Nat → Nat → KL → List KV → KG → KI → Prop
abbrev KF : Type := Nat → Nat → Nat → Nat → Int → KS → Bool → Nat → KK → (Nat → KK) → KQ → KK
abbrev KH : Type := Nat → Nat → Nat → Nat → Nat → Int → Nat → Nat → Nat → Instr → Nat → Bool
def KOk (f : KF) (g : KH) : Prop := ∀ (xs : KS) (lay : Bool) (dd kc ks j pc np a b c d : Nat) (z : Int) (w : Nat) (i : Instr) (len : Nat) (nx : KK) (jp : Nat → KK) (Q : KQ) (L : KL) (st : List KV) (G : KG) (I : KI),
  decode (kMb j) pc = .ok (i, len) → g j a b c d z w pc np i len = true → f a b c d z xs lay dd nx jp Q kc ks L st G I →
  (∀ kc ks L st G I, nx kc ks L st G I → kWP xs lay dd kc ks j np L st G I Q) → (∀ t kc ks L st G I, jp t kc ks L st G I → kWP xs lay dd kc ks j t L st G I Q) → kWP xs lay dd kc ks j pc L st G I Q
theorem kbe {a b : Nat} (h : Nat.beq a b = true) : a = b := Nat.eq_of_beq_eq_true h
def kTsw (n : Nat) : List Nat := match n with
  | 0 => [48, 61, 74, 86]
  | 1 => [60, 65, 70, 75, 84, 93, 110]
  | 2 => [72, 93, 109]
  | 3 => [36, 41, 46, 54, 62]
  | 4 => [64, 69, 74, 79, 86, 94, 107]
  | 5 => [64, 89, 101]
  | 6 => [60, 70, 80, 90]
  | 7 => [36, 41, 46, 51, 56]
  | 8 => [184, 217, 230, 273, 296, 329, 372, 405, 428, 451, 474, 497, 530, 563, 596, 629, 652, 685, 728, 761, 774, 827, 880, 893, 906, 929, 972, 995, 1028, 1071, 1144, 1178, 1241, 1274]
  | _ => []
def kLsw (n : Nat) : List (Int × Nat) := match n with
  | 0 => [(1, 116), (2, 123), (10, 149), (11, 164), (20, 171), (30, 183), (40, 194), (41, 206), (50, 218), (60, 230), (70, 253), (80, 265), (81, 288)]
  | 1 => [(98, 54), (109, 60), (110, 52), (115, 56), (122, 58)]
  | _ => []
theorem kIsN_in {z : Nat} {a : String} {i : Nat} {y : MethodName} {h : String} (hz : decide (kWd z = some (.methodLinkNest a i y h)) = true) : Cond.methodLinkNest a i y h ∈ kNest := by
  have h1 := kWd_mem (of_decide_eq_true hz)
  unfold lw_tbl at h1
  rcases List.mem_append.mp h1 with h2 | h2
  · unfold k2_sels at h2
    obtain ⟨q, _, hq⟩ := List.mem_map.mp h2
    cases hq
  · exact List.mem_filter.mpr ⟨h2, rfl⟩
def c_ldi : KH := fun j a b c d z w pc np i len =>
  match i with
  | .iload_n k => Nat.beq k.val a && Nat.beq len 1 && Nat.beq np (pc + 1)
  | .iload k => Nat.beq k a && Nat.beq len 2 && Nat.beq np (pc + 2)
  | _ => false
def c_lda : KH := fun j a b c d z w pc np i len =>
  match i with
  | .aload_n k => Nat.beq k.val a && Nat.beq len 1 && Nat.beq np (pc + 1)
  | .aload k => Nat.beq k a && Nat.beq len 2 && Nat.beq np (pc + 2)
  | _ => false
def c_ldl : KH := fun j a b c d z w pc np i len =>
  match i with
  | .lload_n k => Nat.beq k.val a && Nat.beq len 1 && Nat.beq np (pc + 1)
  | .lload k => Nat.beq k a && Nat.beq len 2 && Nat.beq np (pc + 2)
  | _ => false
def c_sti : KH := fun j a b c d z w pc np i len =>
  match i with
  | .istore_n k => Nat.beq k.val a && Nat.blt a (kMl j) && Nat.beq len 1 && Nat.beq np (pc + 1)
  | .istore k => Nat.beq k a && Nat.blt a (kMl j) && Nat.beq len 2 && Nat.beq np (pc + 2)
  | _ => false
def c_sta : KH := fun j a b c d z w pc np i len =>
  match i with
  | .astore_n k => Nat.beq k.val a && Nat.blt a (kMl j) && Nat.beq len 1 && Nat.beq np (pc + 1)
  | .astore k => Nat.beq k a && Nat.blt a (kMl j) && Nat.beq len 2 && Nat.beq np (pc + 2)
  | _ => false
def c_stl : KH := fun j a b c d z w pc np i len =>
  match i with
  | .lstore_n k => Nat.beq k.val a && Nat.blt (a + 1) (kMl j) && Nat.beq len 1 && Nat.beq np (pc + 1)
  | .lstore k => Nat.beq k a && Nat.blt (a + 1) (kMl j) && Nat.beq len 2 && Nat.beq np (pc + 2)
  | _ => false
def c_pushi : KH := fun j a b c d z w pc np i len =>
  match i with
  | .iconst n => decide (Int32.ofInt n = Int32.ofInt z) && (decide (-2147483648 ≤ z) && decide (z < 2147483648)) && Nat.beq len 1 && Nat.beq np (pc + 1)
  | .bipush n => decide ((Int8.ofInt n).toInt32 = Int32.ofInt z) && (decide (-2147483648 ≤ z) && decide (z < 2147483648)) && Nat.beq len 2 && Nat.beq np (pc + 2)
  | .sipush n => decide ((Int16.ofInt n).toInt32 = Int32.ofInt z) && (decide (-2147483648 ≤ z) && decide (z < 2147483648)) && Nat.beq len 3 && Nat.beq np (pc + 3)
  | .ldc n => kIs w (Cond.constant (kMy j).cls n (Int32.ofInt z)) && (decide (-2147483648 ≤ z) && decide (z < 2147483648)) && Nat.beq len 2 && Nat.beq np (pc + 2)
  | .ldc_w n => kIs w (Cond.constant (kMy j).cls n (Int32.ofInt z)) && (decide (-2147483648 ≤ z) && decide (z < 2147483648)) && Nat.beq len 3 && Nat.beq np (pc + 3)
  | _ => false
def c_pushl : KH := fun j a b c d z w pc np i len =>
  match i with
  | .lconst n => decide (Int64.ofNat (n : Nat) = Int64.ofInt z) && (decide (-9223372036854775808 ≤ z) && decide (z < 9223372036854775808)) && Nat.beq len 1 && Nat.beq np (pc + 1)
  | .ldc2_w n => kIs w (Cond.constantLong (kMy j).cls n (Int64.ofInt z)) && (decide (-9223372036854775808 ≤ z) && decide (z < 9223372036854775808)) && Nat.beq len 3 && Nat.beq np (pc + 3)
  | _ => false
def c_null : KH := fun j a b c d z w pc np i len =>
  match i with
  | .aconst_null => Nat.beq len 1 && Nat.beq np (pc + 1)
  | _ => false
def c_iinc : KH := fun j a b c d z w pc np i len =>
  match i with
  | .iinc k n => Nat.beq k a && decide (n = z) && Nat.blt a (kMl j) && Nat.beq len 3 && Nat.beq np (pc + 3)
  | _ => false
def c_iadd : KH := fun j a b c d z w pc np i len =>
  match i with
  | .iadd => Nat.beq len 1 && Nat.beq np (pc + 1)
  | _ => false
def c_isub : KH := fun j a b c d z w pc np i len =>
  match i with
  | .isub => Nat.beq len 1 && Nat.beq np (pc + 1)
  | _ => false
def c_imul : KH := fun j a b c d z w pc np i len =>
  match i with
  | .imul => Nat.beq len 1 && Nat.beq np (pc + 1)
  | _ => false
def c_idiv : KH := fun j a b c d z w pc np i len =>
  match i with
  | .idiv => Nat.beq len 1 && Nat.beq np (pc + 1)
  | _ => false
def c_irem : KH := fun j a b c d z w pc np i len =>
  match i with
  | .irem => Nat.beq len 1 && Nat.beq np (pc + 1)
  | _ => false
def c_iand : KH := fun j a b c d z w pc np i len =>
  match i with
  | .iand => Nat.beq len 1 && Nat.beq np (pc + 1)
  | _ => false
def c_ior : KH := fun j a b c d z w pc np i len =>
  match i with
  | .ior => Nat.beq len 1 && Nat.beq np (pc + 1)
  | _ => false
def c_ixor : KH := fun j a b c d z w pc np i len =>
  match i with
  | .ixor => Nat.beq len 1 && Nat.beq np (pc + 1)
  | _ => false
def c_ishl : KH := fun j a b c d z w pc np i len =>
  match i with
  | .ishl => Nat.beq len 1 && Nat.beq np (pc + 1)
  | _ => false
def c_ishr : KH := fun j a b c d z w pc np i len =>
  match i with
  | .ishr => Nat.beq len 1 && Nat.beq np (pc + 1)
  | _ => false
def c_iushr : KH := fun j a b c d z w pc np i len =>
  match i with
  | .iushr => Nat.beq len 1 && Nat.beq np (pc + 1)
  | _ => false
def c_ineg : KH := fun j a b c d z w pc np i len =>
  match i with
  | .ineg => Nat.beq len 1 && Nat.beq np (pc + 1)
  | _ => false
def c_land : KH := fun j a b c d z w pc np i len =>
  match i with
  | .land => Nat.beq len 1 && Nat.beq np (pc + 1)
  | _ => false
def c_lor : KH := fun j a b c d z w pc np i len =>
  match i with
  | .lor => Nat.beq len 1 && Nat.beq np (pc + 1)
  | _ => false
def c_lshl : KH := fun j a b c d z w pc np i len =>
  match i with
  | .lshl => Nat.beq len 1 && Nat.beq np (pc + 1)
  | _ => false
def c_lcmp : KH := fun j a b c d z w pc np i len =>
  match i with
  | .lcmp => Nat.beq len 1 && Nat.beq np (pc + 1)
  | _ => false
def c_i2l : KH := fun j a b c d z w pc np i len =>
  match i with
  | .i2l => Nat.beq len 1 && Nat.beq np (pc + 1)
  | _ => false
def c_l2i : KH := fun j a b c d z w pc np i len =>
  match i with
  | .l2i => Nat.beq len 1 && Nat.beq np (pc + 1)
  | _ => false
def c_i2b : KH := fun j a b c d z w pc np i len =>
  match i with
  | .i2b => Nat.beq len 1 && Nat.beq np (pc + 1)
  | _ => false
def c_i2s : KH := fun j a b c d z w pc np i len =>
  match i with
  | .i2s => Nat.beq len 1 && Nat.beq np (pc + 1)
  | _ => false
def c_dup : KH := fun j a b c d z w pc np i len =>
  match i with
  | .dup => Nat.beq len 1 && Nat.beq np (pc + 1)
  | _ => false
def c_pop : KH := fun j a b c d z w pc np i len =>
  match i with
  | .pop => Nat.beq len 1 && Nat.beq np (pc + 1)
  | _ => false
def c_dup_x1 : KH := fun j a b c d z w pc np i len =>
  match i with
  | .dup_x1 => Nat.beq len 1 && Nat.beq np (pc + 1)
  | _ => false
def c_dup2 : KH := fun j a b c d z w pc np i len =>
  match i with
  | .dup2 => Nat.beq len 1 && Nat.beq np (pc + 1)
  | _ => false
def c_if_eq : KH := fun j a b c d z w pc np i len =>
  match i with
  | .ifCond .eq off => decide ((pc : Int) + off = (a : Int)) && Nat.beq len 3 && Nat.beq np (pc + 3)
  | _ => false
def c_if_ne : KH := fun j a b c d z w pc np i len =>
  match i with
  | .ifCond .ne off => decide ((pc : Int) + off = (a : Int)) && Nat.beq len 3 && Nat.beq np (pc + 3)
  | _ => false
def c_if_lt : KH := fun j a b c d z w pc np i len =>
  match i with
  | .ifCond .lt off => decide ((pc : Int) + off = (a : Int)) && Nat.beq len 3 && Nat.beq np (pc + 3)
  | _ => false
def c_if_ge : KH := fun j a b c d z w pc np i len =>
  match i with
  | .ifCond .ge off => decide ((pc : Int) + off = (a : Int)) && Nat.beq len 3 && Nat.beq np (pc + 3)
  | _ => false
def c_if_gt : KH := fun j a b c d z w pc np i len =>
  match i with
  | .ifCond .gt off => decide ((pc : Int) + off = (a : Int)) && Nat.beq len 3 && Nat.beq np (pc + 3)
  | _ => false
def c_if_le : KH := fun j a b c d z w pc np i len =>
  match i with
  | .ifCond .le off => decide ((pc : Int) + off = (a : Int)) && Nat.beq len 3 && Nat.beq np (pc + 3)
  | _ => false
def c_icmp_eq : KH := fun j a b c d z w pc np i len =>
  match i with
  | .if_icmp .eq off => decide ((pc : Int) + off = (a : Int)) && Nat.beq len 3 && Nat.beq np (pc + 3)
  | _ => false
def c_icmp_ne : KH := fun j a b c d z w pc np i len =>
  match i with
  | .if_icmp .ne off => decide ((pc : Int) + off = (a : Int)) && Nat.beq len 3 && Nat.beq np (pc + 3)
  | _ => false
def c_icmp_lt : KH := fun j a b c d z w pc np i len =>
  match i with
  | .if_icmp .lt off => decide ((pc : Int) + off = (a : Int)) && Nat.beq len 3 && Nat.beq np (pc + 3)
  | _ => false
def c_icmp_ge : KH := fun j a b c d z w pc np i len =>
  match i with
  | .if_icmp .ge off => decide ((pc : Int) + off = (a : Int)) && Nat.beq len 3 && Nat.beq np (pc + 3)
  | _ => false
def c_icmp_gt : KH := fun j a b c d z w pc np i len =>
  match i with
  | .if_icmp .gt off => decide ((pc : Int) + off = (a : Int)) && Nat.beq len 3 && Nat.beq np (pc + 3)
  | _ => false
def c_icmp_le : KH := fun j a b c d z w pc np i len =>
  match i with
  | .if_icmp .le off => decide ((pc : Int) + off = (a : Int)) && Nat.beq len 3 && Nat.beq np (pc + 3)
  | _ => false
def c_goto : KH := fun j a b c d z w pc np i len =>
  match i with
  | .goto off => decide ((pc : Int) + off = (a : Int)) && Nat.beq len 3
  | _ => false
def c_ifnonnull : KH := fun j a b c d z w pc np i len =>
  match i with
  | .ifnonnull off => decide ((pc : Int) + off = (a : Int)) && Nat.beq len 3 && Nat.beq np (pc + 3)
  | _ => false
def ktc (x : Int) (f : Nat → Prop) : Int → List Nat → Prop
  | _, [] => True
  | lo, t :: r => (x = lo → f t) ∧ ktc x f (lo + 1) r
theorem ktc_at {x : Int} {f : Nat → Prop} : ∀ {l : List Nat} {lo : Int} {t : Nat}, ktc x f lo l → l[(x - lo).toNat]? = some t → lo ≤ x → f t
  | [], lo, t, _, h, _ => by simp at h
  | u :: r, lo, t, hk, h, hl => by
    unfold ktc at hk
    by_cases he : x = lo
    · rw [show (x - lo).toNat = 0 by omega] at h
      cases h
      exact hk.1 he
    · refine ktc_at hk.2 ?_ (by omega)
      rw [show (x - lo).toNat = (x - (lo + 1)).toNat + 1 by omega] at h
      simpa using h
def ktt (pc : Nat) (offs : List Int) (ts : List Nat) : Bool := match offs, ts with
  | [], [] => true
  | o :: os, t :: r => decide ((pc : Int) + o = (t : Int)) && ktt pc os r
  | _, _ => false
theorem ktt_at {pc : Nat} : ∀ {offs : List Int} {ts : List Nat}, ktt pc offs ts = true → offs.length = ts.length ∧ ∀ (k : Nat) (off : Int), offs[k]? = some off → ∃ t, ts[k]? = some t ∧ (pc : Int) + off = (t : Int)
  | [], [], _ => ⟨rfl, fun k off h => by simp at h⟩
  | o :: os, t :: r, h => by
    unfold ktt at h
    rw [Bool.and_eq_true, decide_eq_true_eq] at h
    obtain ⟨h1, h2⟩ := ktt_at h.2
    refine ⟨by simp [h1], fun k off hk => ?_⟩
    cases k with
    | zero => cases hk; exact ⟨t, rfl, h.1⟩
    | succ k => exact h2 k off (by simpa using hk)
  | [], _ :: _, h => by unfold ktt at h; cases h
  | _ :: _, [], h => by unfold ktt at h; cases h
def c_tsw : KH := fun j a b c d z w pc np i len =>
  match i with
  | .tableswitch dflt lo hi offs => decide (lo = z) && decide (hi + 1 = z + b) && decide ((pc : Int) + dflt = (a : Int)) && Nat.beq (kTsw c).length b && ktt pc offs.toList (kTsw c)
  | _ => false
def klc (x : Int) (f : Nat → Prop) (df : Prop) : List (Int × Nat) → Prop
  | [] => df
  | q :: r => (x = q.1 → f q.2) ∧ (x ≠ q.1 → klc x f df r)
def klt (pc : Nat) (ps : List (Int × Int)) (ts : List (Int × Nat)) : Bool := match ps, ts with
  | [], [] => true
  | p :: ps, t :: r => decide (p.1 = t.1) && decide ((pc : Int) + p.2 = (t.2 : Int)) && klt pc ps r
  | _, _ => false
def kof (d x : Int) : List (Int × Int) → Int
  | [] => d
  | p :: r => if x = p.1 then p.2 else kof d x r
theorem klt_at {pc : Nat} {f : Nat → Prop} {df : Prop} {x d : Int} {dt : Nat} (hdt : (pc : Int) + d = (dt : Int)) : ∀ {ps : List (Int × Int)} {ts : List (Int × Nat)}, klt pc ps ts = true → klc x f df ts → ∃ t : Nat, (pc : Int) + kof d x ps = (t : Int) ∧ (f t ∨ (t = dt ∧ df))
  | [], [], _, hk => ⟨dt, hdt, Or.inr ⟨rfl, hk⟩⟩
  | p :: ps, t :: r, h, hk => by
    unfold klt at h
    simp only [Bool.and_eq_true, decide_eq_true_eq] at h
    unfold klc at hk
    unfold kof
    by_cases he : x = p.1
    · rw [if_pos he]
      exact ⟨t.2, h.1.2, Or.inl (hk.1 (by rw [he, h.1.1]))⟩
    · rw [if_neg he]
      exact klt_at hdt h.2 (hk.2 (by rw [← h.1.1]; exact he))
  | [], _ :: _, h, _ => by unfold klt at h; cases h
  | _ :: _, [], h, _ => by unfold klt at h; cases h
theorem kof_eq (d x : Int) : ∀ (ps : List (Int × Int)), Op.lookupswitch.offset ps d x = kof d x ps
  | [] => by first | rfl | simp [Op.lookupswitch.offset, kof]
  | p :: r => by
    have := kof_eq d x r
    unfold kof
    by_cases he : x = p.1
    · rw [if_pos he]
      simp [Op.lookupswitch.offset, he]
    · rw [if_neg he, ← this]
      have he2 : ¬ p.1 = x := fun q => he q.symm
      simp [Op.lookupswitch.offset, he, he2]
def c_lsw : KH := fun j a b c d z w pc np i len =>
  match i with
  | .lookupswitch dflt ps => (ps.toList.zip (ps.toList.drop 1)).all (fun (a, next) => a.1 < next.1) && decide ((pc : Int) + dflt = (a : Int)) && klt pc ps.toList (kLsw c)
  | _ => false
def c_iald : KH := fun j a b c d z w pc np i len =>
  match i with
  | .iaload => Nat.beq len 1 && Nat.beq np (pc + 1)
  | _ => false
def c_bald : KH := fun j a b c d z w pc np i len =>
  match i with
  | .baload => Nat.beq len 1 && Nat.beq np (pc + 1)
  | _ => false
def c_lald : KH := fun j a b c d z w pc np i len =>
  match i with
  | .laload => Nat.beq len 1 && Nat.beq np (pc + 1)
  | _ => false
def c_alen : KH := fun j a b c d z w pc np i len =>
  match i with
  | .arraylength => Nat.beq len 1 && Nat.beq np (pc + 1)
  | _ => false
def c_iast : KH := fun j a b c d z w pc np i len =>
  match i with
  | .iastore => Nat.beq len 1 && Nat.beq np (pc + 1)
  | _ => false
def kzr (x : Int) (p : Prop) : Prop := match x with
  | 0 => p
  | 1 => p
  | _ => False
theorem kzr_of {x : Int} {p : Prop} (h : kzr x p) : (x = 0 ∨ x = 1) ∧ p := by
  unfold kzr at h
  split at h
  · exact ⟨Or.inl rfl, h⟩
  · exact ⟨Or.inr rfl, h⟩
  · exact h.elim
theorem kzr_in {x : Int} {p : Prop} (h1 : x = 0 ∨ x = 1) (h : p) : kzr x p := by
  rcases h1 with rfl | rfl <;> exact h
def c_bast : KH := fun j a b c d z w pc np i len =>
  match i with
  | .bastore => Nat.beq len 1 && Nat.beq np (pc + 1)
  | _ => false
def c_last : KH := fun j a b c d z w pc np i len =>
  match i with
  | .lastore => Nat.beq len 1 && Nat.beq np (pc + 1)
  | _ => false
def c_aald : KH := fun j a b c d z w pc np i len =>
  match i with
  | .aaload => Nat.beq len 1 && Nat.beq np (pc + 1)
  | _ => false
def c_aast : KH := fun j a b c d z w pc np i len =>
  match i with
  | .aastore => Nat.beq len 1 && Nat.beq np (pc + 1)
  | _ => false
def c_geti : KH := fun j a b c d z w pc np i len =>
  match i with
  | .getfield idx => match kcl[a]? with
    | some q => Nat.blt b q.2.2 && kIs w (Cond.fieldLink (kMy j).cls idx (q.2.1 b).1 (q.2.1 b).2.1 (q.2.1 b).2.2.1) && (Nat.beq (kFt a b) 0 || Nat.beq (kFt a b) 2) && Nat.beq len 3 && Nat.beq np (pc + 3)
    | none => false
  | _ => false
def c_getr : KH := fun j a b c d z w pc np i len =>
  match i with
  | .getfield idx => match kcl[a]? with
    | some q => Nat.blt b q.2.2 && kIs w (Cond.fieldLink (kMy j).cls idx (q.2.1 b).1 (q.2.1 b).2.1 (q.2.1 b).2.2.1) && (Nat.beq (kFt a b) c && Nat.ble 4 c && (match kOff (10 + a) b with
      | some (f, l) => Nat.beq l d && decide ((f : Int) = z)
      | none => false)) && Nat.beq len 3 && Nat.beq np (pc + 3)
    | none => false
  | _ => false
def c_gett : KH := fun j a b c d z w pc np i len =>
  match i with
  | .getfield idx => kIs w (Cond.fieldLink (kMy j).cls idx (TX1 2).1 (TX1 2).2.1 (TX1 2).2.2.1) && Nat.beq len 3 && Nat.beq np (pc + 3)
  | _ => false
def c_gets : KH := fun j a b c d z w pc np i len =>
  match i with
  | .getstatic idx => Nat.blt a 3 && kIs w (Cond.fieldLink (kMy j).cls idx (kStN a).1 (kStN a).2 "[I") && Nat.beq len 3 && Nat.beq np (pc + 3)
  | _ => false
def c_puti : KH := fun j a b c d z w pc np i len =>
  match i with
  | .putfield idx => match kcl[a]? with
    | some q => Nat.blt b q.2.2 && kIs w (Cond.fieldLink (kMy j).cls idx (q.2.1 b).1 (q.2.1 b).2.1 (q.2.1 b).2.2.1) && (!(q.2.1 b).2.2.2 && decide (kTy a b = .int)) && Nat.beq len 3 && Nat.beq np (pc + 3)
    | none => false
  | _ => false
def c_putz : KH := fun j a b c d z w pc np i len =>
  match i with
  | .putfield idx => match kcl[a]? with
    | some q => Nat.blt b q.2.2 && kIs w (Cond.fieldLink (kMy j).cls idx (q.2.1 b).1 (q.2.1 b).2.1 (q.2.1 b).2.2.1) && (!(q.2.1 b).2.2.2 && decide (kTy a b = .boolean)) && Nat.beq len 3 && Nat.beq np (pc + 3)
    | none => false
  | _ => false
def kRef (t : FieldType) : Bool := match t with
  | .object _ => true
  | .array _ => true
  | _ => false
theorem kRef_of {t : FieldType} (h : kRef t = true) : (∃ C, t = .object C) ∨ ∃ u, t = .array u := by
  cases t <;> first | exact Or.inl ⟨_, rfl⟩ | exact Or.inr ⟨_, rfl⟩ | cases h
def c_putr : KH := fun j a b c d z w pc np i len =>
  match i with
  | .putfield idx => match kcl[a]? with
    | some q => Nat.blt b q.2.2 && kIs w (Cond.fieldLink (kMy j).cls idx (q.2.1 b).1 (q.2.1 b).2.1 (q.2.1 b).2.2.1) && (Nat.beq (kFt a b) c && Nat.ble 4 c && kRef (kTy a b) && (!(q.2.1 b).2.2.2 || (Nat.beq (kMk j) 2 && decide ((q.2.1 b).1 = (kMy j).cls)))) && Nat.beq len 3 && Nat.beq np (pc + 3)
    | none => false
  | _ => false
def c_putt : KH := fun j a b c d z w pc np i len =>
  match i with
  | .putfield idx => kIs w (Cond.fieldLink (kMy j).cls idx (TX1 2).1 (TX1 2).2.1 (TX1 2).2.2.1) && Nat.beq len 3 && Nat.beq np (pc + 3)
  | _ => false
def c_new : KH := fun j a b c d z w pc np i len =>
  match i with
  | .new idx => match kcl[a]? with
    | some q => kIs w (Cond.classLink (kMy j).cls idx q.1) && kIs c (Cond.instantiable q.1 q.2.2) && kIs d (Cond.initialized q.1) && Nat.beq q.2.2 b && Nat.beq len 3 && Nat.beq np (pc + 3)
    | none => false
  | _ => false
def c_newa : KH := fun j a b c d z w pc np i len =>
  match i with
  | .newarray ty => decide (newarray.typeOf ty = kAty a) && Nat.ble 4 a && Nat.ble a 7 && kIs w (Cond.arrayClass (kAty a)) && Nat.beq len 2 && Nat.beq np (pc + 2)
  | _ => false
def c_anewa : KH := fun j a b c d z w pc np i len =>
  match i with
  | .anewarray idx => kIs w (Cond.classLink (kMy j).cls idx (bif Nat.beq a 8 then RX3 else RX5)) && (Nat.beq a 8 || Nat.beq a 9) && Nat.beq len 3 && Nat.beq np (pc + 3)
  | _ => false
def c_objinit : KH := fun j a b c d z w pc np i len =>
  match i with
  | .invokespecial idx => kIs w (Cond.methodLink (kMy j).cls idx Lib.objectInit) && kIs a (Cond.instanceMethod Lib.objectInit) && kIs b (Cond.code Lib.objectInit ⟨#[0xb1]⟩ 1 none) && Nat.beq len 3 && Nat.beq np (pc + 3)
  | _ => false
def krn (d : Nat) : Nat := bif Nat.beq d 4 then 43 else 0
def kAok (j d : Nat) : Bool := Nat.beq (kRt j) d && (match kMr j with
  | none => Nat.beq d 2
  | some (.array _) => Nat.beq d 4
  | some _ => !(Nat.beq d 4) && !(Nat.beq d 2))
theorem kAok_of {j d : Nat} {x : Int} (h : kAok j d = true) : koutl j x = (bif Nat.beq d 2 then [] else [(d, krn d, x)]) := by
  unfold kAok at h
  rw [Bool.and_eq_true] at h
  obtain ⟨h1, h2⟩ := h
  have h1 := kbe h1
  unfold koutl
  have fin : ∀ t, kMr j = some t → kRn j = 0 → (!(Nat.beq d 4) && !(Nat.beq d 2)) = true → [(kRt j, kRn j, x)] = (bif Nat.beq d 2 then ([] : List KV) else [(d, krn d, x)]) := by
    intro t ht hn h5
    cases hb4 : Nat.beq d 4 with
    | true => rw [hb4] at h5; simp at h5
    | false =>
      cases hb2 : Nat.beq d 2 with
      | true => rw [hb2] at h5; simp at h5
      | false =>
        rw [h1, hn]
        unfold krn
        rw [hb4]; rfl
  cases hr : kMr j with
  | none =>
    rw [hr] at h2
    have h2 := kbe h2
    subst h2; rfl
  | some t =>
    rw [hr] at h2
    cases t with
    | array u =>
      have h2 := kbe h2
      subst h2
      have hn : kRn j = 43 := by unfold kRn; rw [hr]
      show [(kRt j, kRn j, x)] = _
      rw [h1, hn]; rfl
    | _ => exact fin _ hr (by unfold kRn; rw [hr]) h2
def c_inv : KH := fun j a b c d z w pc np i len =>
  match i with
  | .invokevirtual idx => kOkM a && decide ((kMl a : Int) = z) && Nat.beq b (kMn a + 1) && Nat.beq (kMk a) 1 && kIs w (Cond.methodLink (kMy j).cls idx (kMy a)) && decide ((kcl[c]?).map (fun q => q.1) = some (kMy a).cls) && kAok a d && Nat.beq len 3 && Nat.beq np (pc + 3)
  | _ => false
def c_invS : KH := fun j a b c d z w pc np i len =>
  match i with
  | .invokestatic idx => kOkM a && decide ((kMl a : Int) = z) && Nat.beq b (kMn a) && Nat.beq (kMk a) 0 && kIs w (Cond.methodLink (kMy j).cls idx (kMy a)) && kAok a d && Nat.beq len 3 && Nat.beq np (pc + 3)
  | _ => false
def c_invSN : KH := fun j a b c d z w pc np i len =>
  match i with
  | .invokestatic idx => kOkM a && decide ((kMl a : Int) = z) && Nat.beq b (kMn a) && Nat.beq (kMk a) 0 && decide (kWd w = some (Cond.methodLinkNest (kMy j).cls idx (kMy a) "CordPocket")) && kAok a d && Nat.beq len 3 && Nat.beq np (pc + 3)
  | _ => false
def c_invI : KH := fun j a b c d z w pc np i len =>
  match i with
  | .invokespecial idx => kOkM a && decide ((kMl a : Int) = z) && Nat.beq b (kMn a + 1) && Nat.beq (kMk a) 2 && kIs w (Cond.methodLink (kMy j).cls idx (kMy a)) && Nat.beq len 3 && Nat.beq np (pc + 3)
  | _ => false
def c_invIN : KH := fun j a b c d z w pc np i len =>
  match i with
  | .invokespecial idx => kOkM a && decide ((kMl a : Int) = z) && Nat.beq b (kMn a + 1) && Nat.beq (kMk a) 2 && decide (kWd w = some (Cond.methodLinkNest (kMy j).cls idx (kMy a) "CordPocket")) && Nat.beq len 3 && Nat.beq np (pc + 3)
  | _ => false
def c_copy : KH := fun j a b c d z w pc np i len =>
  match i with
  | .invokestatic idx => kIs w (Cond.methodLink (kMy j).cls idx arraycopyName) && kIs a (Cond.native arraycopyName) && kIs b (Cond.static arraycopyName) && kIs c (Cond.initialized "java/lang/System") && Nat.beq len 3 && Nat.beq np (pc + 3)
  | _ => false
def c_mmax : KH := fun j a b c d z w pc np i len =>
  match i with
  | .invokestatic idx => kIs w (Cond.methodLink (kMy j).cls idx Lib.Math.max.name) && kIs a (Cond.static Lib.Math.max.name) && kIs b (Cond.initialized "java/lang/Math") && kIs c (Cond.code Lib.Math.max.name Lib.Math.max.code 2 (some .int)) && Nat.beq len 3 && Nat.beq np (pc + 3)
  | _ => false
def c_mmin : KH := fun j a b c d z w pc np i len =>
  match i with
  | .invokestatic idx => kIs w (Cond.methodLink (kMy j).cls idx Lib.Math.min.name) && kIs a (Cond.static Lib.Math.min.name) && kIs b (Cond.initialized "java/lang/Math") && kIs c (Cond.code Lib.Math.min.name Lib.Math.min.code 2 (some .int)) && Nat.beq len 3 && Nat.beq np (pc + 3)
  | _ => false
def c_mabs : KH := fun j a b c d z w pc np i len =>
  match i with
  | .invokestatic idx => kIs w (Cond.methodLink (kMy j).cls idx Lib.Math.abs.name) && kIs a (Cond.static Lib.Math.abs.name) && kIs b (Cond.initialized "java/lang/Math") && kIs c (Cond.code Lib.Math.abs.name Lib.Math.abs.code 1 (some .int)) && Nat.beq len 3 && Nat.beq np (pc + 3)
  | _ => false
def c_iret : KH := fun j a b c d z w pc np i len =>
  match i with
  | .ireturn => decide (kMr j = some .int) && Nat.beq len 1
  | _ => false
def c_zret : KH := fun j a b c d z w pc np i len =>
  match i with
  | .ireturn => decide (kMr j = some .boolean) && Nat.beq len 1
  | _ => false
def c_lret : KH := fun j a b c d z w pc np i len =>
  match i with
  | .lreturn => decide (kMr j = some .long) && Nat.beq len 1
  | _ => false
def c_vret : KH := fun j a b c d z w pc np i len =>
  match i with
  | .return_ => decide (kMr j = none) && Nat.beq len 1
  | _ => false
def c_aret : KH := fun j a b c d z w pc np i len =>
  match i with
  | .areturn => decide (kMr j = some (.array .int)) && Nat.beq len 1
  | _ => false
def kHs : List KH := [c_ldi, c_lda, c_ldl, c_sti, c_sta, c_stl, c_pushi, c_pushl, c_null, c_iinc, c_iadd, c_isub, c_imul, c_idiv, c_irem, c_iand, c_ior, c_ixor, c_ishl, c_ishr, c_iushr, c_ineg, c_land, c_lor, c_lshl, c_lcmp, c_i2l, c_l2i, c_i2b, c_i2s, c_dup, c_pop, c_dup_x1, c_dup2, c_if_eq, c_if_ne, c_if_lt, c_if_ge, c_if_gt, c_if_le, c_icmp_eq, c_icmp_ne, c_icmp_lt, c_icmp_ge, c_icmp_gt, c_icmp_le, c_goto, c_ifnonnull, c_tsw, c_lsw, c_iald, c_bald, c_lald, c_alen, c_iast, c_bast, c_last, c_aald, c_aast, c_geti, c_getr, c_gett, c_gets, c_puti, c_putz, c_putr, c_putt, c_new, c_newa, c_anewa, c_objinit, c_inv, c_invS, c_invSN, c_invI, c_invIN, c_copy, c_mmax, c_mmin, c_mabs, c_iret, c_zret, c_lret, c_vret, c_aret]
def knH : List KH → Nat → KH
  | [], _ => fun _ _ _ _ _ _ _ _ _ _ _ => false
  | x :: _, 0 => x
  | _ :: r, n + 1 => knH r n
def kchk (j : Nat) (e : KE) (np : Nat) : Bool := match decode (kMb j) e.1 with
  | .ok (i, len) => (knH kHs e.2.1) j e.2.2.1 e.2.2.2.1 e.2.2.2.2.1 e.2.2.2.2.2.1 e.2.2.2.2.2.2.1 e.2.2.2.2.2.2.2 e.1 np i len
  | .error _ => false
def kchkL (j : Nat) : List KE → Bool
  | [] => true
  | e :: r => kchk j e (match r with | [] => 0 | e2 :: _ => e2.1) && kchkL j r
