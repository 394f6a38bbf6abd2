/-! THE MODEL'S CALLS: parts -/
/-- crossings met once, twice, from a visit on -/
def oms (P : Pic) (f : Nat) : Nat → Nat × Nat
  | 0 => (0, 0)
  | i + 1 => let S := oms P f i; let b := 2 ^ pcx P ((f + i) % P.1.length); (S.1 ||| b, S.2 ||| (S.1 &&& b))
theorem visit_inj {P : Pic} (h : PicOk P) {a b : Nat} (ha : a < P.1.length) (hb : b < P.1.length) (e1 : pcx P a = pcx P b) (e2 : pov P a = pov P b) : a = b := by
  have this := List.pairwise_iff_getElem.mp h.2.1
  have e3 : P.1[a] = P.1[b] := by
    have ga : P.1.getD a (0, false) = P.1[a] := by rw [List.getD_eq_getElem?_getD, List.getElem?_eq_getElem ha]; rfl
    have gb : P.1.getD b (0, false) = P.1[b] := by rw [List.getD_eq_getElem?_getD, List.getElem?_eq_getElem hb]; rfl
    unfold pcx at e1; unfold pov at e2
    rw [ga, gb] at e1 e2
    exact Prod.ext e1 e2
  rcases Nat.lt_trichotomy a b with hl | hl | hl
  · exact absurd e3 (this a b ha hb hl)
  · exact hl
  · exact absurd e3.symm (this b a hb ha hl)
theorem visit_3 {P : Pic} (h : PicOk P) {a b c : Nat} (ha : a < P.1.length) (hb : b < P.1.length) (hc : c < P.1.length) (e1 : pcx P a = pcx P b) (e2 : pcx P b = pcx P c) (n1 : a ≠ b) (n2 : b ≠ c) (n3 : a ≠ c) : False := by
  have x : pov P a ≠ pov P b := fun e => n1 (visit_inj h ha hb e1 e)
  have y : pov P b ≠ pov P c := fun e => n2 (visit_inj h hb hc e2 e)
  have z : pov P a ≠ pov P c := fun e => n3 (visit_inj h ha hc (e1.trans e2) e)
  cases p : pov P a <;> cases q : pov P b <;> cases r : pov P c <;> rw [p, q] at x <;> rw [q, r] at y <;> rw [p, r] at z <;> simp at x y z
theorem modne {f i j m : Nat} (hi : i < m) (hj : j < m) (hij : i ≠ j) : (f + i) % m ≠ (f + j) % m := by
  intro e
  have h1 := Nat.div_add_mod (f + i) m
  have h2 := Nat.div_add_mod (f + j) m
  rw [e] at h1
  generalize (f + i) / m = a at h1
  generalize (f + j) / m = b at h2
  rcases Nat.lt_trichotomy a b with hl | hl | hl
  · have : m * (a + 1) ≤ m * b := Nat.mul_le_mul_left m hl
    rw [Nat.mul_add] at this; omega
  · subst hl; omega
  · have : m * (b + 1) ≤ m * a := Nat.mul_le_mul_left m hl
    rw [Nat.mul_add] at this; omega
theorem oms_b {P : Pic} (h : PicOk P) (f : Nat) : ∀ i, i ≤ P.1.length →
    (∀ c, (oms P f i).1.testBit c = true → ∃ k, k < i ∧ pcx P ((f + k) % P.1.length) = c) ∧ (∀ c, (oms P f i).2.testBit c = true → ∃ k l, k < l ∧ l < i ∧ pcx P ((f + k) % P.1.length) = c ∧ pcx P ((f + l) % P.1.length) = c) ∧
    (∀ c, (odx P f i).testBit c = ((oms P f i).1.testBit c != (oms P f i).2.testBit c)) ∧ (∀ c, (oms P f i).2.testBit c = true → (oms P f i).1.testBit c = true)
  | 0, _ => by
    refine ⟨fun c hc => ?_, fun c hc => ?_, fun c => ?_, fun c hc => ?_⟩
    · unfold oms at hc; simp at hc
    · unfold oms at hc; simp at hc
    · unfold oms odx; simp
    · unfold oms at hc; simp at hc
  | i + 1, hi => by
    obtain ⟨h1, h2, h3, h4⟩ := oms_b h f i (by omega)
    have hm : 0 < P.1.length := by omega
    have e1 : (oms P f (i + 1)).1 = (oms P f i).1 ||| 2 ^ pcx P ((f + i) % P.1.length) := rfl
    have e2 : (oms P f (i + 1)).2 = (oms P f i).2 ||| ((oms P f i).1 &&& 2 ^ pcx P ((f + i) % P.1.length)) := rfl
    have e3 : odx P f (i + 1) = odx P f i ^^^ 2 ^ pcx P ((f + i) % P.1.length) := rfl
    generalize hx : pcx P ((f + i) % P.1.length) = x at e1 e2 e3
    have no3 : (oms P f i).2.testBit x = false := by
      cases hb : (oms P f i).2.testBit x with
      | false => rfl
      | true =>
        obtain ⟨k, l, hkl, hli, hk, hl⟩ := h2 x hb
        have lt := fun a => Nat.mod_lt a hm
        exact (visit_3 h (lt (f + k)) (lt (f + l)) (lt (f + i)) (hk.trans hl.symm) (hl.trans hx.symm) (modne (by omega) (by omega) (by omega)) (modne (by omega) (by omega) (by omega)) (modne (by omega) (by omega) (by omega))).elim
    refine ⟨fun c hc => ?_, fun c hc => ?_, fun c => ?_, fun c hc => ?_⟩
    · rw [e1, Nat.testBit_or, Nat.testBit_two_pow, Bool.or_eq_true] at hc
      rcases hc with hc | hc
      · obtain ⟨k, hk, e⟩ := h1 c hc
        exact ⟨k, by omega, e⟩
      · exact ⟨i, by omega, by rw [hx]; exact of_decide_eq_true hc⟩
    · rw [e2, Nat.testBit_or, Nat.testBit_and, Nat.testBit_two_pow, Bool.or_eq_true, Bool.and_eq_true] at hc
      rcases hc with hc | ⟨hc, hc2⟩
      · obtain ⟨k, l, a, b, e⟩ := h2 c hc
        exact ⟨k, l, a, by omega, e⟩
      · obtain ⟨k, hk, e⟩ := h1 c hc
        exact ⟨k, i, hk, by omega, e, by rw [hx]; exact of_decide_eq_true hc2⟩
    · rw [e1, e2, e3, Nat.testBit_xor, Nat.testBit_or, Nat.testBit_or, Nat.testBit_and, Nat.testBit_two_pow, h3 c]
      by_cases hxc : x = c
      · subst hxc
        rw [no3]
        cases (oms P f i).1.testBit x <;> simp
      · rw [decide_eq_false hxc]
        cases (oms P f i).1.testBit c <;> cases (oms P f i).2.testBit c <;> rfl
    · rw [e2, Nat.testBit_or, Nat.testBit_and, Bool.or_eq_true, Bool.and_eq_true] at hc
      rw [e1, Nat.testBit_or, Bool.or_eq_true]
      rcases hc with hc | hc
      · exact Or.inl (h4 c hc)
      · exact Or.inl hc.1
theorem oms_odx {P : Pic} (h : PicOk P) (f i : Nat) (hi : i ≤ P.1.length) : (oms P f i).1 = (oms P f i).2 ↔ odx P f i = 0 := by
  obtain ⟨_, _, h3, _⟩ := oms_b h f i hi
  constructor
  · intro e
    apply Nat.eq_of_testBit_eq
    intro c
    rw [h3 c, e, Nat.zero_testBit]
    cases (oms P f i).2.testBit c <;> rfl
  · intro e
    apply Nat.eq_of_testBit_eq
    intro c
    have := h3 c
    rw [e, Nat.zero_testBit] at this
    cases x : (oms P f i).1.testBit c <;> cases y : (oms P f i).2.testBit c <;> rw [x, y] at this <;> simp at this ⊢
theorem oms_lt {P : Pic} (h : PicOk P) (f : Nat) (hm : 0 < P.1.length) : ∀ i, (oms P f i).1 < 128 ∧ (oms P f i).2 < 128
  | 0 => by unfold oms; omega
  | i + 1 => by
    obtain ⟨a, b⟩ := oms_lt h f hm i
    have hc := h.lt (Nat.mod_lt (f + i) hm)
    have h7 := h.1
    have hp : 2 ^ pcx P ((f + i) % P.1.length) < 2 ^ 7 := Nat.pow_lt_pow_right (by omega) (by omega)
    exact ⟨Nat.or_lt_two_pow (n := 7) a hp, Nat.or_lt_two_pow (n := 7) b (Nat.lt_of_le_of_lt Nat.and_le_left a)⟩
theorem t_M_isPart {xs : KS} {d f len : Nat} {P : Pic} {G : KG} {I : KI} {Q : KQ} (hP : MHd P I) (hok : PicOk P) (hf : f < P.1.length) (hlen : len ≤ P.1.length) (h : Q (bi (decide (odx P f len = 0))) G I) : kWP xs true (d) 0 0 214 0 [(0, 19, 0, 101), (1, 0, 0, (f : Int)), (2, 0, 0, (len : Int))] [] G I Q := by
  obtain ⟨a7, a2, an, av, as⟩ := hP
  have hm : 0 < P.1.length := by omega
  refine b_M_isPart_0 ?_
  refine loop_up (n := len) (W := fun i => kWP xs true (d) 0 0 214 8 [(0, 19, 0, 101), (1, 0, 0, (f : Int)), (2, 0, 0, (len : Int)), (3, 0, 0, ((oms P f i).1 : Int)), (4, 0, 0, ((oms P f i).2 : Int)), (5, 0, 0, (i : Int))] [] G I Q) ?_ ?_ (Nat.zero_le _)
  · have e := oms_odx hok f len hlen
    refine b_M_isPart_8 ⟨fun _ => ⟨fun h1 => ?_, fun h1 => ?_⟩, fun hh => by omega⟩
    · rw [decide_eq_false (fun hh => h1 (by rw [e.mpr hh]))] at h; exact h
    · rw [decide_eq_true (e.mp (by omega))] at h; exact h
  · intro i hi ih
    obtain ⟨x, y⟩ := oms_lt hok f hm i
    have hr := kirem_n (a := f + i) (b := P.1.length) (by omega) hm (by omega)
    have hv := Nat.mod_lt (f + i) hm
    have hc := hok.lt hv
    have hpw : 2 ^ pcx P ((f + i) % P.1.length) < 2 ^ 7 := Nat.pow_lt_pow_right (by omega) (by omega)
    refine b_M_isPart_8 ⟨fun hh => by omega, fun _ => ?_⟩
    rw [an, w32_id (x := 2 * (P.2.length : Int)) (by omega) (by omega), w32_id (x := (f : Int) + (i : Int)) (by omega) (by omega), w32_inc (by omega), show 2 * (P.2.length : Int) = (P.1.length : Int) by omega, show (f : Int) + (i : Int) = ((f + i : Nat) : Int) by omega, hr, (av _ hv).1, kishl_n (by omega), kiand_n (by omega) (by omega), kior_n (by omega) (by omega), kior_n (by omega) (by have := Nat.and_le_left (n := (oms P f i).1) (m := 2 ^ pcx P ((f + i) % P.1.length)); omega)]
    exact ⟨by omega, by omega, ih⟩
theorem m_parted {xs : KS} {p what : Int} : MOk xs 215 [(0, 19, 0, 101), (1, 0, 0, p), (2, 0, 0, what)] (opParted p what) := by
  intro d S G I Q hS hI h
  have no : ∀ r J, mscr I J → opParted p what S = (r, S) → Q r G J := fun r J hm e => by rw [e] at h; exact h G J (hS.ms hm) hm.lo
  refine b_M_parted_0 (t_M_isPicture hS.1.1 hS.1.2.1 ⟨fun h1 => no _ _ (mscr.rf I) (by unfold opParted; rw [if_neg (fun hh => of_decide_eq_false (bi0 h1) ⟨hh.1, hh.2.1⟩)]), fun h1 => t_M_within ⟨fun h2 => ?_, fun h2 => no _ _ (mscr.rf I) (by unfold opParted; rw [if_neg (fun hh => of_decide_eq_false (bi0 h2) ⟨hh.2.2.1, hh.2.2.2⟩)])⟩⟩)
  have hp : 0 ≤ p ∧ p < S.1.length := of_decide_eq_true (bi1 h1)
  have h2 := of_decide_eq_true (bi1 h2)
  have h12 := hS.1.2.1
  obtain ⟨i, rfl⟩ : ∃ i : Nat, p = i := ⟨p.toNat, by omega⟩
  have hi : i < S.1.length := by omega
  have hok := hI.ok i hi
  unfold opParted at no
  rw [if_pos ⟨hp.1, hp.2, h2.1, h2.2⟩, show pg S.1 (i : Int) = pget S.1 i from rfl] at no
  simp only at no
  refine t_M_takesUp hS.1 hi (fun J hP hf => ?_)
  have hm := hf.ms
  generalize pget S.1 i = P at *
  have h7 := hok.1
  have hl := hok.len
  have an := hP.2.2.1
  have no' := fun r => no r J hm
  unfold prt at no'
  suffices key : ∀ (u j : Nat), j + u = P.1.length - 2 → (∀ l, l < j → decide (0 ≤ fop P (l + 2)) = false) → kWP xs true (d + 80) 0 0 215 27 [(0, 19, 0, 101), (2, 0, 0, what), (3, 0, 0, ((j + 2 : Nat) : Int))] [] G J Q from key (P.1.length - 2) 0 (by omega) (fun l hl => absurd hl (Nat.not_lt_zero l))
  intro u
  induction u with
  | zero =>
    intro j hj hl
    refine b_M_parted_27 ?_
    rw [an, w32_id (by omega) (by omega)]
    refine ⟨fun _ => no' _ ?_, fun hh => by omega⟩
    rw [fnd_none (n := P.1.length - 2) (fun l h => hl l (by omega)), if_neg (by omega)]
  | succ u ih =>
    intro j hj hl
    refine b_M_parted_27 ?_
    rw [an, w32_id (by omega) (by omega)]
    refine ⟨fun hh => by omega, fun _ => ?_⟩
    refine loop_up (n := P.1.length) (W := fun k => (∀ x, x < k → decide (odx P x (j + 2) = 0) = false) → kWP xs true (d + 80) 0 0 215 40 [(0, 19, 0, 101), (2, 0, 0, what), (3, 0, 0, ((j + 2 : Nat) : Int)), (4, 0, 0, (k : Int))] [] G J Q) ?_ ?_ (Nat.zero_le _) (fun x hx => absurd hx (Nat.not_lt_zero x))
    · intro hx
      refine b_M_parted_40 ?_
      rw [an, w32_id (x := 2 * (P.2.length : Int)) (by omega) (by omega), w32_inc (by omega)]
      refine ⟨fun _ => ih (j + 1) (by omega) (all_step (p := fun l => decide (0 ≤ fop P (l + 2)) = false) hl (decide_eq_false ?_)), fun hh => by omega⟩
      unfold fop fnI
      rw [fnd_none hx, if_neg (by omega)]; decide
    · intro k hk ihk hx
      refine b_M_parted_40 ?_
      rw [an, w32_id (x := 2 * (P.2.length : Int)) (by omega) (by omega)]
      refine ⟨fun hh => by omega, fun _ => t_M_isPart hP hok hk (by omega) ?_⟩
      cases hb : decide (odx P k (j + 2) = 0) with
      | false =>
        refine ⟨fun _ => ?_, fun hh => absurd rfl hh⟩
        rw [w32_inc (by omega)]
        exact ihk (all_step (p := fun x => decide (odx P x (j + 2) = 0) = false) hx hb)
      | true =>
        have ef : fop P (j + 2) = (k : Int) := by
          unfold fop fnI
          rw [fnd_eq (f := fun f => decide (odx P f (j + 2) = 0)) hk hb hx, if_pos hk]
        have eg := fnd_eq (f := fun i => decide (0 ≤ fop P (i + 2))) (n := P.1.length - 2) (k := j) (by omega) (by rw [ef]; exact decide_eq_true (by omega)) hl
        refine ⟨fun hh => absurd hh (by decide), fun _ => ⟨fun w => no' _ ?_, fun w => no' _ ?_⟩⟩
        · rw [eg, if_pos (by omega), if_neg w, ef]
        · rw [eg, if_pos (by omega), if_pos w]; rfl
