/-! THE CLASS: helpers over sums -/
def isPl (V : Nat → Int) : Bool := (List.range 43).all (fun k => decide (V k = if k = 21 then 1 else 0))
def eqV (V W : Nat → Int) : Bool := (List.range 43).all (fun k => decide (V k = W k))
theorem allB {f : Nat → Bool} {n : Nat} : (List.range n).all f = true ↔ ∀ k, k < n → f k = true := by
  rw [List.all_eq_true]
  exact ⟨fun h k hk => h k (List.mem_range.mpr hk), fun h k hk => h k (List.mem_range.mp hk)⟩
theorem isPl_iff {V : Nat → Int} : isPl V = true ↔ ∀ k, k < 43 → V k = if k = 21 then 1 else 0 := by
  unfold isPl
  rw [allB]
  exact ⟨fun h k hk => of_decide_eq_true (h k hk), fun h k hk => decide_eq_true (h k hk)⟩
theorem eqV_iff {V W : Nat → Int} : eqV V W = true ↔ ∀ k, k < 43 → V k = W k := by
  unfold eqV
  rw [allB]
  exact ⟨fun h k hk => of_decide_eq_true (h k hk), fun h k hk => decide_eq_true (h k hk)⟩
theorem all_step {p : Nat → Prop} {i : Nat} (hi : ∀ j, j < i → p j) (h : p i) : ∀ j, j < i + 1 → p j := fun j hj => by
  by_cases e : j = i
  · rw [e]; exact h
  · exact hi j (by omega)
theorem t_C_isPlain {xs : KS} {d : Nat} {p : Int} {V : Nat → Int} {G : KG} {I : KI} {Q : KQ} (hV : ∀ k : Nat, k < 43 → I p (k : Int) = V k) (h : Q (bi (isPl V)) G I) : kWP xs true (d) 0 0 130 0 [(0, 4, 43, p)] [] G I Q := by
  refine b_C_isPlain_0 ?_
  refine loop_up (n := 43) (W := fun i => (∀ j, j < i → V j = if j = 21 then 1 else 0) → kWP xs true (d) 0 0 130 2 [(0, 4, 43, p), (1, 0, 0, (i : Int))] [] G I Q) ?_ ?_ (Nat.zero_le _) (fun i hi => absurd hi (Nat.not_lt_zero i))
  · intro hi
    refine b_C_isPlain_2 ⟨fun _ => ?_, fun h1 => by omega⟩
    rw [isPl_iff.mpr hi] at h
    exact h
  · intro i hi ih hl
    have no : V i ≠ (if i = 21 then 1 else 0) → Q 0 G I := fun hne => by
      rw [Bool.eq_false_iff.mpr (fun hh => hne (isPl_iff.mp hh i hi))] at h
      exact h
    refine b_C_isPlain_2 ⟨fun h1 => by omega, fun _ => ⟨by omega, ?_⟩⟩
    rw [hV i hi, w32_id (by omega) (by omega)]
    refine ⟨fun h1 => ⟨fun h2 => ih (all_step hl ?_), fun h2 => no ?_⟩, fun h1 => ⟨fun h2 => ih (all_step hl ?_), fun h2 => no ?_⟩⟩
    · rw [if_neg (by omega)]; exact h2
    · rw [if_neg (by omega)]; exact h2
    · rw [if_pos (by omega)]; exact h2
    · rw [if_pos (by omega)]; exact h2
theorem t_C_areAlike {xs : KS} {d : Nat} {p q : Int} {V W : Nat → Int} {G : KG} {I : KI} {Q : KQ} (hV : ∀ k : Nat, k < 43 → I p (k : Int) = V k) (hW : ∀ k : Nat, k < 43 → I q (k : Int) = W k) (h : Q (bi (eqV V W)) G I) : kWP xs true (d) 0 0 131 0 [(0, 4, 43, p), (1, 4, 43, q)] [] G I Q := by
  refine b_C_areAlike_0 ?_
  refine loop_up (n := 43) (W := fun i => (∀ j, j < i → V j = W j) → kWP xs true (d) 0 0 131 2 [(0, 4, 43, p), (1, 4, 43, q), (2, 0, 0, (i : Int))] [] G I Q) ?_ ?_ (Nat.zero_le _) (fun i hi => absurd hi (Nat.not_lt_zero i))
  · intro hi
    refine b_C_areAlike_2 ⟨fun _ => ?_, fun h1 => by omega⟩
    rw [eqV_iff.mpr hi] at h
    exact h
  · intro i hi ih hl
    refine b_C_areAlike_2 ⟨fun h1 => by omega, fun _ => ⟨by omega, by omega, ?_⟩⟩
    rw [hV i hi, hW i hi, w32_id (by omega) (by omega)]
    refine ⟨fun h1 => ih (all_step hl h1), fun h1 => ?_⟩
    rw [Bool.eq_false_iff.mpr (fun hh => h1 (eqV_iff.mp hh i hi))] at h
    exact h
/-- the least power, the greatest -/
def lsP (V : Nat → Int) : Int := if fnd (fun k => decide (V k ≠ 0)) 43 < 43 then 2 * (fnd (fun k => decide (V k ≠ 0)) 43 : Int) - 42 else 0
def gsP (V : Nat → Int) : Int := if fnd (fun j => decide (V (42 - j) ≠ 0)) 43 < 43 then 42 - 2 * (fnd (fun j => decide (V (42 - j) ≠ 0)) 43 : Int) else 0
theorem t_C_leastPower {xs : KS} {d : Nat} {p : Int} {V : Nat → Int} {G : KG} {I : KI} {Q : KQ} (hV : ∀ k : Nat, k < 43 → I p (k : Int) = V k) (h : Q (lsP V) G I) : kWP xs true (d) 0 0 128 0 [(0, 4, 43, p)] [] G I Q := by
  refine b_C_leastPower_0 ?_
  unfold lsP at h
  refine loop_up (n := 43) (W := fun i => (∀ j, j < i → decide (V j ≠ 0) = false) → kWP xs true (d) 0 0 128 2 [(0, 4, 43, p), (1, 0, 0, (i : Int))] [] G I Q) ?_ ?_ (Nat.zero_le _) (fun i hi => absurd hi (Nat.not_lt_zero i))
  · intro hi
    refine b_C_leastPower_2 ⟨fun _ => ?_, fun h1 => by omega⟩
    rw [fnd_none hi, if_neg (by omega)] at h
    exact h
  · intro i hi ih hl
    refine b_C_leastPower_2 ⟨fun h1 => by omega, fun _ => ⟨by omega, ?_⟩⟩
    rw [hV i hi, w32_id (x := (i : Int) + 1) (by omega) (by omega), w32_id (x := 2 * (i : Int)) (by omega) (by omega), w32_id (by omega) (by omega)]
    refine ⟨fun h1 => ih (all_step (p := fun j => decide (V j ≠ 0) = false) hl (by simp [h1])), fun h1 => ?_⟩
    rw [fnd_eq (f := fun k => decide (V k ≠ 0)) hi (by simp [h1]) hl, if_pos hi] at h
    exact h
theorem t_C_greatestPower {xs : KS} {d : Nat} {p : Int} {V : Nat → Int} {G : KG} {I : KI} {Q : KQ} (hV : ∀ k : Nat, k < 43 → I p (k : Int) = V k) (h : Q (gsP V) G I) : kWP xs true (d) 0 0 129 0 [(0, 4, 43, p)] [] G I Q := by
  refine b_C_greatestPower_0 ?_
  unfold gsP at h
  suffices key : ∀ (u i : Nat), i + u = 43 → (∀ j, j < i → decide (V (42 - j) ≠ 0) = false) → kWP xs true (d) 0 0 129 3 [(0, 4, 43, p), (1, 0, 0, ((42 : Int) - (i : Int)))] [] G I Q from key 43 0 rfl (fun j hj => absurd hj (Nat.not_lt_zero j))
  intro u
  induction u with
  | zero =>
    intro i hi hl
    refine b_C_greatestPower_3 ⟨fun _ => ?_, fun h1 => by omega⟩
    rw [fnd_none (n := 43) (fun j hj => hl j (by omega)), if_neg (by omega)] at h
    exact h
  | succ u ih =>
    intro i hi hl
    refine b_C_greatestPower_3 ⟨fun h1 => by omega, fun _ => ⟨by omega, ?_⟩⟩
    rw [show (42 : Int) - (i : Int) = ((42 - i : Nat) : Int) by omega, hV (42 - i) (by omega), w32_id (x := ((42 - i : Nat) : Int) + (-1)) (by omega) (by omega), w32_id (x := 2 * ((42 - i : Nat) : Int)) (by omega) (by omega), w32_id (by omega) (by omega)]
    refine ⟨fun h1 => ?_, fun h1 => ?_⟩
    · rw [show ((42 - i : Nat) : Int) + (-1) = (42 : Int) - ((i + 1 : Nat) : Int) by omega]
      exact ih (i + 1) (by omega) (all_step (p := fun j => decide (V (42 - j) ≠ 0) = false) hl (by simp [h1]))
    · rw [fnd_eq (f := fun j => decide (V (42 - j) ≠ 0)) (show i < 43 by omega) (by simp [h1]) hl, if_pos (by omega)] at h
      rw [show (2 : Int) * ((42 - i : Nat) : Int) - 42 = 42 - 2 * (i : Int) by omega]
      exact h
/-- the signs as bits -/
def plm (l : List Bool) : Nat := l.foldr (fun b r => 2 * r + b.toNat) 0
theorem plm_lt : ∀ (l : List Bool), plm l < 2 ^ l.length
  | [] => by unfold plm; simp
  | b :: r => by
    have := plm_lt r
    show 2 * plm r + b.toNat < 2 ^ (r.length + 1)
    rw [Nat.pow_succ]
    have hb : b.toNat ≤ 1 := Bool.toNat_le b
    omega
theorem plm_bit : ∀ (l : List Bool) (c : Nat), (plm l).testBit c = l.getD c false
  | [], c => by unfold plm; simp
  | b :: r, 0 => by
    show (2 * plm r + b.toNat).testBit 0 = b
    rw [Nat.testBit_zero]
    cases b <;> simp <;> omega
  | b :: r, c + 1 => by
    show (2 * plm r + b.toNat).testBit (c + 1) = r.getD c false
    rw [Nat.testBit_succ, ← plm_bit r c]
    congr 1
    have hb : b.toNat ≤ 1 := Bool.toNat_le b
    omega
theorem plm_eq {P : Pic} {s : Nat} (hn : P.2.length ≤ 7) (hs : s < 128) (h : ∀ c, c < 7 → s.testBit c = psg P c) : s = plm P.2 := by
  apply Nat.eq_of_testBit_eq
  intro c
  rw [plm_bit]
  rcases Nat.lt_or_ge c 7 with hc | hc
  · exact h c hc
  · rw [Nat.testBit_lt_two_pow (Nat.lt_of_lt_of_le hs (Nat.pow_le_pow_right (n := 2) (i := 7) (by omega) hc)), show P.2.getD c false = psg P c from rfl, psg_ge (by omega)]
theorem CPic.pl {p : Int} {P : Pic} {I : KI} (h : CPic p P I) : I p 7 = (plm P.2 : Int) := by
  obtain ⟨c1, _, _, _, _, _, ⟨s, s1, s2, s3⟩⟩ := h
  rw [s1, plm_eq c1 s2 s3]
/-- the sum of a picture, were its crossings with sign 1 those of the bits -/
def val (xs : KS) (P : Pic) (pl k : Nat) : Int := w32 (smA xs P pl 64 k)
def RgOk (P : Pic) : Prop := ∀ g, g < 2 ^ P.2.length → 1 ≤ rings P g ∧ rings P g ≤ 8
def CSm (p : Int) (P : Pic) (I : KI) : Prop := CCut p P I ∧ CRng p P I
theorem CSm.fr {p : Int} {P : Pic} {I J : KI} (h : CSm p P I) (hf : ∀ a k, p ≤ a → a < p + 4 → J a k = I a k) : CSm p P J := by
  obtain ⟨⟨c1, c2, c3, c4, c5⟩, c6⟩ := h
  refine ⟨⟨c1, c2, by rw [hf _ _ (by omega) (by omega)]; exact c3, by rw [hf _ _ (by omega) (by omega)]; exact c4, fun k hk => ?_⟩, fun g hg => ?_⟩
  · rw [hf _ _ (by omega) (by omega), hf _ _ (by omega) (by omega)]; exact c5 k hk
  · rw [hf _ _ (by omega) (by omega)]; exact c6 g hg
theorem t_Sums_cutS {xs : KS} {d : Nat} {p q : Int} {P : Pic} {G : KG} {I : KI} {Q : KQ} (hP : CPic q P I) (hpq : p + 4 ≤ q ∨ q + 2 ≤ p) (h : ∀ I' : KI, CSm p P I' → kfr p (p + 4) I I' → Q 0 G I') : kWP xs true (d + 2) 0 0 76 0 [(0, 16, 0, p), (1, 13, 0, q)] [] G I Q :=
  t_Sums_cut hP hpq (fun J h1 h2 hf => h J ⟨h1, h2⟩ hf)
theorem t_Sums_workS {xs : KS} {d : Nat} {p : Int} {pl : Nat} {P : Pic} {G : KG} {I : KI} {Q : KQ} (hx : (xs 0).1 = 64) (hC : CSm p P I) (hR : RgOk P) (hpl : pl < 2 ^ P.2.length)
    (h : ∀ I' : KI, CSm p P I' → (∀ k : Nat, k < 43 → I' (p + 5) (k : Int) = val xs P pl k) → kfr (p + 4) (p + 6) I I' → Q 0 G I') : kWP xs true (d + 1) 0 0 79 0 [(0, 16, 0, p), (1, 0, 0, (pl : Int))] [] G I Q :=
  t_Sums_work hx hC.1.1 hC.1.2.2.1 hC.2 hR hpl (fun J hV hf => h J (hC.fr (fun a k _ h2 => hf a k (by omega))) hV hf)
/-- sumOf: worked out when asked for, and kept -/
theorem t_C_sumOf {xs : KS} {d : Nat} {p : Int} {P : Pic} {G : KG} {I : KI} {Q : KQ} (hx : (xs 0).1 = 64) (hP : CPic p P I) (hp : 17 ≤ p) (hR : RgOk P) (hK : I p 3 ≠ 0 → ∀ k : Nat, k < 43 → I (p + 3) (k : Int) = val xs P (plm P.2) k)
    (h : ∀ I' : KI, (∀ k : Nat, k < 43 → I' (p + 3) (k : Int) = val xs P (plm P.2) k) → (∀ a k, ¬ (11 ≤ a ∧ a < 17) → ¬ (a = p ∧ k = 3) → a ≠ p + 3 → I' a k = I a k) → Q (p + 3) G I') : kWP xs true (d + 3) 0 0 127 0 [(0, 18, 0, 0), (1, 13, 0, p)] [] G I Q := by
  refine b_C_sumOf_0 ⟨fun h1 => h I (hK h1) (fun _ _ _ _ _ => rfl), fun h1 => t_Sums_cutS hP (by omega) (fun J1 hC1 hf1 => ?_)⟩
  have hpl := hP.pl
  rw [← hf1 p 7 (by omega)] at hpl
  rw [hpl]
  refine t_Sums_workS hx hC1 hR (plm_lt _) (fun J2 hC2 hV2 hf2 => ⟨by omega, fun J3 e3 J4 e4 => h J4 (fun k hk => ?_) (fun a k n1 n2 n3 => ?_)⟩)
  · rw [e4, kst_n (by omega), e3]; unfold kcpy
    rw [if_pos (by omega), show (0 : Int) + ((k : Int) - 0) = (k : Int) by omega]
    exact hV2 k hk
  · rw [e4, kst_n (by omega), e3]; unfold kcpy
    rw [if_neg (by omega), hf2 _ _ (by omega), hf1 _ _ (by omega)]
