/-! PICTURES: counts, changes, the next way of a face -/
theorem kidiv_n {a b : Nat} (h : a < 2147483648) (hb : 0 < b) (hb2 : b < 2147483648) : kidiv a b = ((a / b : Nat) : Int) := by
  unfold kidiv
  have h1 : (Int32.ofInt (a : Int)).toInt = a := toInt_of32 (by omega) (by omega)
  have h2 : (Int32.ofInt (b : Int)).toInt = b := toInt_of32 (by omega) (by omega)
  rw [Int32.toInt_div, h1, h2]
  have h3 : (a : Int).tdiv (b : Int) = ((a / b : Nat) : Int) := by rw [Int.ofNat_tdiv]
  rw [h3]
  have h4 : a / b ≤ a := Nat.div_le_self a b
  generalize a / b = q at h4 ⊢
  rw [Int.bmod_eq_of_le (by omega) (by omega)]
theorem kirem_n {a b : Nat} (h : a < 2147483648) (hb : 0 < b) (hb2 : b < 2147483648) : kirem a b = ((a % b : Nat) : Int) := by
  have hd := kidiv_n h hb hb2
  unfold kidiv at hd
  unfold kirem
  have h1 : Int32.ofInt (a : Int) / Int32.ofInt (b : Int) = Int32.ofInt ((a / b : Nat) : Int) := by
    rw [← hd, Int32.ofInt_toInt]
  rw [h1, ← Int32.ofInt_mul, ← Int32.ofInt_sub]
  have h2 : (a : Int) - ((a / b : Nat) : Int) * (b : Int) = ((a % b : Nat) : Int) := by
    have := Nat.div_add_mod a b
    have h3 : ((b * (a / b) + a % b : Nat) : Int) = (a : Int) := by rw [this]
    rw [Int.natCast_add, Int.natCast_mul] at h3
    rw [Int.mul_comm]; omega
  rw [h2, toInt_of32 (by omega) (by have := Nat.mod_lt a hb; omega)]
def npop (n : Nat) : Nat := (List.range 7).countP (fun c => n.testBit c)
def bcE (v0 : Int) : Int := kiand (w32 ((w32 ((kiand (w32 ((w32 ((kiand (w32 (v0 - (kiand (kiushr v0 1) 1431655765))) 858993459) + (kiand (kiushr (w32 (v0 - (kiand (kiushr v0 1) 1431655765))) 2) 858993459))) + (kiushr (w32 ((kiand (w32 (v0 - (kiand (kiushr v0 1) 1431655765))) 858993459) + (kiand (kiushr (w32 (v0 - (kiand (kiushr v0 1) 1431655765))) 2) 858993459))) 4))) 252645135) + (kiushr (kiand (w32 ((w32 ((kiand (w32 (v0 - (kiand (kiushr v0 1) 1431655765))) 858993459) + (kiand (kiushr (w32 (v0 - (kiand (kiushr v0 1) 1431655765))) 2) 858993459))) + (kiushr (w32 ((kiand (w32 (v0 - (kiand (kiushr v0 1) 1431655765))) 858993459) + (kiand (kiushr (w32 (v0 - (kiand (kiushr v0 1) 1431655765))) 2) 858993459))) 4))) 252645135) 8))) + (kiushr (w32 ((kiand (w32 ((w32 ((kiand (w32 (v0 - (kiand (kiushr v0 1) 1431655765))) 858993459) + (kiand (kiushr (w32 (v0 - (kiand (kiushr v0 1) 1431655765))) 2) 858993459))) + (kiushr (w32 ((kiand (w32 (v0 - (kiand (kiushr v0 1) 1431655765))) 858993459) + (kiand (kiushr (w32 (v0 - (kiand (kiushr v0 1) 1431655765))) 2) 858993459))) 4))) 252645135) + (kiushr (kiand (w32 ((w32 ((kiand (w32 (v0 - (kiand (kiushr v0 1) 1431655765))) 858993459) + (kiand (kiushr (w32 (v0 - (kiand (kiushr v0 1) 1431655765))) 2) 858993459))) + (kiushr (w32 ((kiand (w32 (v0 - (kiand (kiushr v0 1) 1431655765))) 858993459) + (kiand (kiushr (w32 (v0 - (kiand (kiushr v0 1) 1431655765))) 2) 858993459))) 4))) 252645135) 8))) 16))) 63
theorem bcE_n : ∀ n : Nat, n < 128 → bcE (n : Int) = (npop n : Int) := by decide +kernel
theorem t_bitCount {xs : KS} {d : Nat} {n : Nat} {G : KG} {I : KI} {Q : KQ} (hn : n < 128) (h : Q (npop n : Int) G I) : kWP xs true (d) 0 0 244 0 [(0, 0, 0, (n : Int))] [] G I Q := by
  refine b_Integer_bitCount_0 ?_
  rw [← bcE_n n hn] at h
  exact h
theorem npop_le (n : Nat) : npop n ≤ 7 := by
  unfold npop
  have := List.countP_le_length (p := fun c => n.testBit c) (l := List.range 7)
  simpa using this
theorem cntP : ∀ (l : List Bool) (m : Nat), l.length ≤ m → (List.range m).countP (fun c => l.getD c false) = l.count true
  | [], m, _ => by
    rw [List.countP_eq_zero.mpr]
    · rfl
    · intro a _; simp
  | b :: r, 0, h => by simp at h
  | b :: r, m + 1, h => by
    rw [List.range_succ_eq_map, List.countP_cons, List.countP_map]
    have e : ((fun c => (b :: r).getD c false) ∘ Nat.succ) = (fun c => r.getD c false) := by
      funext c; simp [Function.comp]
    rw [e, cntP r m (by simpa using h), List.count_cons]
    cases b <;> simp
theorem npop_sg {P : Pic} {s : Nat} (h7 : P.2.length ≤ 7) (hs : ∀ c, c < 7 → s.testBit c = psg P c) : npop s = P.2.count true := by
  rw [← cntP P.2 7 h7]
  unfold npop
  apply List.countP_congr
  intro c hc
  rw [hs c (List.mem_range.mp hc)]
  rfl
def wrh (P : Pic) : Int := 2 * (P.2.count true : Int) - P.2.length
theorem t_Picture_writhe {xs : KS} {d : Nat} {p : Int} {G : KG} {I : KI} {Q : KQ} {P : Pic} (hP : CPic p P I) (h : Q (wrh P) G I) : kWP xs true (d + 1) 0 0 38 0 [(0, 13, 0, p)] [] G I Q := by
  obtain ⟨c1, c2, c3, c4, c5, c6, ⟨y, y1, y2, y3⟩⟩ := hP
  refine b_Picture_writhe_0 ?_
  rw [y1]
  refine t_bitCount y2 ?_
  rw [npop_sg c1 y3, c3]
  have := List.count_le_length (a := true) (l := P.2)
  rw [w32_id (x := 2 * _) (by omega) (by omega), w32_id (by omega) (by omega)]
  exact h
/-- changed at a crossing -/
def chg (P : Pic) (c : Nat) : Pic := (P.1.map (fun q => (q.1, q.2 != decide (q.1 = c))), P.2.set c (!(psg P c)))
theorem pcx_chg (P : Pic) (c k : Nat) : pcx (chg P c) k = pcx P k := by
  unfold pcx chg
  simp only [List.getD_eq_getElem?_getD, List.getElem?_map]
  cases P.1[k]? <;> rfl
theorem pov_chg (P : Pic) (c k : Nat) (hk : k < P.1.length) : pov (chg P c) k = (pov P k != decide (pcx P k = c)) := by
  unfold pov chg pcx
  simp only [List.getD_eq_getElem?_getD, List.getElem?_map]
  rw [List.getElem?_eq_getElem hk]
  rfl
theorem psg_chg (P : Pic) (c i : Nat) (hc : c < P.2.length) : psg (chg P c) i = (psg P i != decide (i = c)) := by
  unfold chg psg
  simp only [List.getD_eq_getElem?_getD]
  by_cases h : i = c
  · subst h
    rw [List.getElem?_set_self hc]
    simp
  · rw [List.getElem?_set_ne (Ne.symm h)]
    simp [h]
theorem kflip {x m : Nat} (hm : m < 31) (hx : x < 2147483648) : ∃ y : Nat, kixor (x : Int) (kishl 1 (m : Int)) = (y : Int) ∧ y < 2147483648 ∧ (∀ n, m < n → x < 2 ^ n → y < 2 ^ n) ∧ ∀ k, y.testBit k = (x.testBit k != decide (k = m)) := by
  have hp : 2 ^ m < 2147483648 := by have := Nat.pow_lt_pow_right (a := 2) (by omega) hm; simpa using this
  refine ⟨x ^^^ 2 ^ m, ?_, kxor_lt hx hp, fun n hn h => ?_, fun k => ?_⟩
  · rw [kishl_n hm, kixor_n hx hp]
  · exact Nat.xor_lt_two_pow h (Nat.pow_lt_pow_right (by omega) hn)
  · rw [Nat.testBit_xor, Nat.testBit_two_pow]
    by_cases hk : k = m
    · subst hk; simp
    · have : ¬ m = k := fun e => hk e.symm
      simp [hk, this]
theorem t_Picture_changeAt {xs : KS} {d : Nat} {p : Int} {c : Nat} {G : KG} {I : KI} {Q : KQ} {P : Pic} (hP : CPic p P I) (hc : c < P.2.length) (h : ∀ I' : KI, CPic p (chg P c) I' → kfr p (p + 1) I I' → I' p 3 = 0 → Q 0 G I') : kWP xs true (d) 0 0 55 0 [(0, 13, 0, p), (1, 0, 0, (c : Int))] [] G I Q := by
  obtain ⟨c1, c2, c3, c4, c5, ⟨x, x1, x2, x3⟩, ⟨y, y1, y2, y3⟩⟩ := hP
  refine b_Picture_changeAt_0 ⟨fun h1 => by omega, fun _ => ⟨fun _ => ?_, fun h1 => by omega⟩⟩
  have key : ∀ j, j ≤ P.1.length → (∀ (J : KI), (∃ z : Nat, J p 6 = (z : Int) ∧ z < 16384 ∧ ∀ k, k < 14 → z.testBit k = (pov P k != (decide (k < j) && decide (pcx P k = c)))) → (∀ a k, ¬ (a = p ∧ k = 6) → J a k = I a k) → kWP xs true (d) 0 0 55 15 [(0, 13, 0, p), (1, 0, 0, (c : Int)), (2, 0, 0, (j : Int))] [] G J Q) := by
    intro j hj
    refine loop_up (n := P.1.length) (W := fun j => ∀ (J : KI), (∃ z : Nat, J p 6 = (z : Int) ∧ z < 16384 ∧ ∀ k, k < 14 → z.testBit k = (pov P k != (decide (k < j) && decide (pcx P k = c)))) → (∀ a k, ¬ (a = p ∧ k = 6) → J a k = I a k) → kWP xs true (d) 0 0 55 15 [(0, 13, 0, p), (1, 0, 0, (c : Int)), (2, 0, 0, (j : Int))] [] G J Q) ?_ ?_ hj
    · intro J ⟨z, z1, z2, z3⟩ hJ
      refine b_Picture_changeAt_15 ⟨fun _ => ?_, fun h1 => ?_⟩
      · intro J1 e1 J2 e2
        rw [hJ _ _ (by omega), y1] at e1
        obtain ⟨w, w1, w2, w3, w4⟩ := kflip (x := y) (m := c) (by omega) (by omega)
        rw [w1] at e1
        have g : ∀ a k, ¬ (a = p ∧ (k = 3 ∨ k = 6 ∨ k = 7)) → J2 a k = I a k := fun a k hk => by rw [e2, kst_n (by omega), e1, kst_n (by omega), hJ _ _ (by omega)]
        refine h J2 ⟨?_, ?_, ?_, ?_, ?_, ?_, ?_⟩ (fun a k hk => g a k (by omega)) (by rw [e2, kst_s])
        · unfold chg; simpa using c1
        · unfold chg; simpa using c2
        · rw [g _ _ (by omega), c3]; unfold chg; simp
        · rw [g _ _ (by omega), c4]; unfold chg; simp
        · intro k hk
          have hk : k < P.1.length := by unfold chg at hk; simpa using hk
          rw [g _ _ (by omega), pcx_chg]; exact c5 k hk
        · refine ⟨z, by rw [e2, kst_n (by omega), e1, kst_n (by omega)]; exact z1, z2, fun k hk => ?_⟩
          rw [z3 k hk]
          by_cases hkl : k < P.1.length
          · rw [pov_chg P c k hkl]; simp [hkl]
          · rw [pov_ge (P := chg P c) (by unfold chg; simp; omega), pov_ge (by omega)]; simp [hkl]
        · refine ⟨w, by rw [e2, kst_n (by omega), e1, kst_s], w3 7 (by omega) y2, fun i hi => ?_⟩
          rw [w4, y3 i hi, psg_chg P c i hc]
      · rw [hJ _ _ (by omega)] at h1; omega
    · intro j hj ih J ⟨z, z1, z2, z3⟩ hJ
      refine b_Picture_changeAt_15 ⟨fun h1 => ?_, fun _ => ⟨⟨by omega, by omega⟩, fun h1 => ?_, fun h1 => ?_⟩⟩
      · rw [hJ _ _ (by omega)] at h1; omega
      · rw [hJ _ _ (by omega), (c5 j hj).1] at h1
        rw [w32_id (by omega) (by omega)]
        refine ih J ⟨z, z1, z2, fun k hk => ?_⟩ hJ
        rw [z3 k hk]
        by_cases hkj : k = j
        · subst hkj
          have : ¬ pcx P k = c := by omega
          simp [this]
        · have : decide (k < j) = decide (k < j + 1) := by apply decide_eq_decide.mpr; omega
          rw [this]
      · rw [hJ _ _ (by omega), (c5 j hj).1] at h1
        intro J1 e1
        obtain ⟨w, w1, w2, w3, w4⟩ := kflip (x := z) (m := j) (by omega) (by omega)
        rw [z1, w1] at e1
        rw [w32_id (by omega) (by omega)]
        refine ih J1 ⟨w, by rw [e1, kst_s], w3 14 (by omega) z2, fun k hk => ?_⟩ (fun a k hk => by rw [e1, kst_n (by omega), hJ _ _ hk])
        rw [w4, z3 k hk]
        by_cases hkj : k = j
        · subst hkj
          have : pcx P k = c := by omega
          simp [this]
        · have : decide (k < j) = decide (k < j + 1) := by apply decide_eq_decide.mpr; omega
          rw [this]
          simp [hkj]
  exact key 0 (Nat.zero_le _) I ⟨x, x1, x2, fun k hk => by rw [x3 k hk]; simp⟩ (fun _ _ _ => rfl)
