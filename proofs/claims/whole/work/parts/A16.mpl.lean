/-! THE MODEL: plaits from the tape -/
theorem ltr_m {m : Nat} {x : Int} (hm2 : 2 ≤ m) (hm : m ≤ 4) (h : 0 ≤ x ∧ x < 256) : ltr m (w8 x) = if 0 ≤ x - 97 ∧ x - 97 ≤ (m : Int) - 2 then some (2 * (x - 97).toNat) else if 0 ≤ x - 65 ∧ x - 65 ≤ (m : Int) - 2 then some (2 * (x - 65).toNat + 1) else none := by
  have hb : w8 x = x ∨ (128 ≤ x ∧ w8 x = x - 256) := by unfold w8; omega
  unfold ltr
  simp only
  by_cases c : 65 ≤ w8 x ∧ w8 x ≤ 90
  · rw [decide_eq_true c, if_pos rfl]
    rw [if_neg (show ¬ (0 ≤ x - 97 ∧ x - 97 ≤ (m : Int) - 2) by omega)]
    have e : w8 x = x := by omega
    rw [e]
    rfl
  · rw [decide_eq_false c]
    simp only [Bool.false_eq_true, if_false]
    rw [if_neg (show ¬ (0 ≤ x - 65 ∧ x - 65 ≤ (m : Int) - 2) by omega)]
    by_cases c2 : 0 ≤ x - 97 ∧ x - 97 ≤ (m : Int) - 2
    · have e : w8 x = x := by omega
      rw [e, if_pos c2, if_pos c2]
      rfl
    · rw [if_neg c2, if_neg (by omega)]
theorem ltr_lt2 {m : Nat} {b : Int} {y : Nat} (hm2 : 2 ≤ m) (h : ltr m b = some y) : y < 2 * m - 2 := by
  unfold ltr at h
  simp only at h
  generalize (if decide (65 ≤ b ∧ b ≤ 90) = true then b - 65 else b - 97) = p at h
  split at h
  · rename_i hc
    have h := Option.some.inj h
    have : (decide (65 ≤ b ∧ b ≤ 90)).toNat ≤ 1 := by cases decide (65 ≤ b ∧ b ≤ 90) <;> decide
    omega
  · cases h
theorem m_plait {xs : KS} {mi : Int} : MOk xs 195 [(0, 19, 0, 101), (1, 0, 0, mi)] (opPlait mi) := by
  intro d S G I Q hS hI h
  have h12 := hS.1.2.1
  have no : ∀ r J, mscr I J → opPlait mi S = (r, S) → Q r G J := fun r J hm e => by rw [e] at h; exact h G J (hS.ms hm) hm.lo
  have hsg := sg_tape hI.2.2.1
  unfold opPlait at no h
  simp only at no h
  refine b_M_plait_0 (t_M_areStrands ⟨fun g1 => ?_, fun g1 => no _ _ (mscr.rf I) (by rw [if_pos (by have := of_decide_eq_false (bi0 g1); omega)])⟩)
  have g1 := of_decide_eq_true (bi1 g1)
  rw [if_neg (by omega)] at no h
  obtain ⟨m, rfl⟩ : ∃ m : Nat, mi = m := ⟨mi.toNat, by omega⟩
  rw [hS.1.1]
  refine ⟨fun g2 J0 e0 J1 e1 => ?_, fun g2 => no _ _ (mscr.rf I) (by rw [if_pos (by omega)])⟩
  rw [if_neg (by omega)] at h
  clear no
  rw [Int.toNat_natCast] at h
  have hT := hS.2.1
  have h120 := hT.2.1
  generalize hf8 : fw8 S.2.1 = f at *
  generalize hn : S.2.1.length = n at *
  have hg : ∀ J : KI, mscr I J → J 101 17 = (n : Int) ∧ ∀ k : Nat, k < n → J 116 (k : Int) = S.2.1.getD k 0 := fun J hf => ⟨by rw [hf _ _ (by omega) (by omega), hT.1, hn], fun k hk => by rw [hf _ _ (by omega) (by omega)]; exact hT.2.2 k (by omega)⟩
  have hf1 : mscr I J1 := fun a k n1 n2 => by rw [e1, kst_n (by omega), e0, kst_n (by omega)]
  have wsk : ∀ k y, ltr m (f k) = some y → wsT m S.2.1 k = y := fun k y hy => by
    unfold wsT
    rw [hf8, hy]; rfl
  -- what is wrong at a place
  have bad : ∀ (k : Nat) (J : KI), k < n → mscr I J → (∀ j, j < k → wbad m f j = false) → wbad m f k = true → kWP xs true (d + 80) 0 0 195 35 [(0, 19, 0, 101), (1, 0, 0, (m : Int)), (2, 0, 0, (k : Int)), (3, 0, 0, ((k + 1 : Nat) : Int))] [] G J Q := by
    intro k J hk hf hg0 hb
    have e := fnd_eq (n := n) hk hb hg0
    rw [e, if_pos hk] at h
    have fin : ∀ J2 : KI, J2 = kst J 101 17 0 → Q (w32 (-100 - (k : Int))) G J2 := fun J2 e2 =>
      h G J2 ((hS.ms hf).tp (by rw [e2, kst_s]) (fun a k n => by rw [e2, kst_n (by omega)])) (fun a x hx => by rw [e2, kst_n (by omega)]; exact hf.lo a x hx)
    refine b_M_plait_35 ⟨fun _ J2 e2 => ⟨fun hh => by omega, fun _ => fin J2 e2⟩, fun _ => ⟨fun _ J2 e2 => ⟨fun hh => by omega, fun _ => fin J2 e2⟩, fun hh => by omega⟩⟩
  refine loop_up (n := n) (W := fun k => ∀ J : KI, mscr I J → J 101 29 = (k : Int) → J 101 30 = (m : Int) → k ≤ 7 → (∀ j, j < k → wbad m f j = false) → (∀ j : Nat, j < k → J 120 (j : Int) = (wsT m S.2.1 j : Int) ∧ wsT m S.2.1 j < 2 * m - 2) → kWP xs true (d + 80) 0 0 195 35 [(0, 19, 0, 101), (1, 0, 0, (m : Int)), (2, 0, 0, (-1)), (3, 0, 0, (k : Int))] [] G J Q) ?_ ?_ (Nat.zero_le _) J1 hf1 (by rw [e1, kst_s]; rfl) (by rw [e1, kst_n (by omega), e0, kst_s]) (by omega) (fun j hj => absurd hj (Nat.not_lt_zero j)) (fun j hj => absurd hj (Nat.not_lt_zero j))
  · intro J hf h29 h30 h7 hg0 hw
    have e : fnd (wbad m f) n = n := fnd_none hg0
    rw [e, if_neg (by omega)] at h
    refine b_M_plait_35 ?_
    rw [(hg J hf).1]
    refine ⟨fun _ J2 e2 => ⟨fun _ => ?_, fun hh => by omega⟩, fun hh => by omega⟩
    have hS2 : RRep (S.1, [], S.2.2) J2 := (hS.ms hf).tp (by rw [e2, kst_s]) (fun a k n => by rw [e2, kst_n (by omega)])
    have lo2 : lof I J2 := fun a x hx => by rw [e2, kst_n (by omega)]; exact hf.lo a x hx
    refine t_M_closes (d := d + 78) (n := n) (m := m) (ws := wsT m S.2.1) (fun k hk => by rw [e2, kst_n (by omega)]; exact hw k hk) (by rw [e2, kst_n (by omega)]; exact h29) (by rw [e2, kst_n (by omega)]; exact h30) (by omega) (by omega) h7 (fun hO J3 hf3 => ⟨fun _ => ?_, fun hh => absurd rfl hh⟩) (fun hO J3 hP3 hf3 => ⟨fun hh => absurd hh (by decide), fun _ => ?_⟩)
    · rw [if_neg (by rw [hO]; simp)] at h
      exact h G J3 (hS2.ms hf3.ms) (fun a x hx => by rw [hf3 _ _ (by omega) (by omega)]; exact lo2 a x hx)
    · rw [if_pos hO] at h
      have hS3 := hS2.ms hf3.ms
      refine t_M_keeps hS3.1 (by show S.1.length < 12; omega) hP3 (fun J4 hp4 hf4 => ?_)
      exact h G J4 (hS3.kp hp4 hf4) (fun a k hk => by rw [hf4 _ _ (by omega) (by omega), hf3 _ _ (by omega) (by omega)]; exact lo2 a k hk)
  · intro k hk ih J hf h29 h30 h7 hg0 hw
    obtain ⟨s0, s1, s2⟩ := hsg k hk
    change 0 ≤ S.2.1.getD k 0 at s0
    change S.2.1.getD k 0 < 256 at s1
    change f k = w8 (S.2.1.getD k 0) at s2
    have hk120 : k < 120 := by omega
    have hc := (hg J hf).2 k hk
    have hl := ltr_m (m := m) (x := S.2.1.getD k 0) (by omega) (by omega) ⟨s0, s1⟩
    rw [← s2] at hl
    generalize S.2.1.getD k 0 = x at *
    refine b_M_plait_35 ?_
    rw [(hg J hf).1, hc, w32_inc (by omega), w32_id (x := x - 97) (by omega) (by omega), w32_id (x := x - 65) (by omega) (by omega), w32_id (x := (m : Int) - 2) (by omega) (by omega)]
    have at97 : (0 ≤ x - 97 ∧ x - 97 ≤ (m : Int) - 2) ∨ (0 ≤ x - 65 ∧ x - 65 ≤ (m : Int) - 2) → kWP xs true (d + 80) 0 0 195 97 [(0, 19, 0, 101), (1, 0, 0, (m : Int)), (2, 0, 0, (-1)), (3, 0, 0, (k : Int)), (4, 0, 0, (x - 97)), (5, 0, 0, (x - 65))] [] G J Q := by
      intro hor
      refine b_M_plait_97 ?_
      rw [w32_inc (by omega), w32_id (x := (m : Int) - 2) (by omega) (by omega)]
      have go : ∀ (y : Nat) (J2 J3 : KI), k < 7 → ltr m (f k) = some y → J2 = kst J 120 (k : Int) (y : Int) → J3 = kst J2 101 29 (w32 (J2 101 29 + 1)) → kWP xs true (d + 80) 0 0 195 35 [(0, 19, 0, 101), (1, 0, 0, (m : Int)), (2, 0, 0, (-1)), (3, 0, 0, ((k + 1 : Nat) : Int))] [] G J3 Q := fun y J2 J3 hk7 hy e2 e3 => by
        rw [show J2 101 29 = (k : Int) by rw [e2, kst_n (by omega)]; exact h29, w32_inc (by omega)] at e3
        refine ih J3 (hf.tr (fun a z n1 n2 => by rw [e3, kst_n (by omega), e2, kst_n (by omega)])) (by rw [e3, kst_s]) (by rw [e3, kst_n (by omega), e2, kst_n (by omega)]; exact h30) (by omega) (all_step (p := fun j => wbad m f j = false) hg0 ?_) (fun j hj => ?_)
        · unfold wbad
          rw [decide_eq_false (by omega), hy]; rfl
        · by_cases hjk : j = k
          · rw [hjk, wsk k y hy]
            exact ⟨by rw [e3, kst_n (by omega), e2, kst_s], ltr_lt2 (by omega) hy⟩
          · rw [e3, kst_n (by omega), e2, kst_n (by omega)]
            exact hw j (by omega)
      refine ⟨fun hh => absurd hh (by decide), fun _ => ⟨fun g3 => t_M_within ⟨fun g4 => ⟨by omega, fun J2 e2 J3 e3 => ?_⟩, fun g4 => ⟨by omega, fun J2 e2 J3 e3 => ?_⟩⟩, fun g3 => bad k J hk hf hg0 ?_⟩⟩
      · have g4 := of_decide_eq_false (bi0 g4)
        rw [if_neg g4, if_pos (by omega)] at hl
        rw [w32_id (x := 2 * (x - 65)) (by omega) (by omega), w32_id (x := 2 * (x - 65) + 1) (by omega) (by omega), show 2 * (x - 65) + 1 = ((2 * (x - 65).toNat + 1 : Nat) : Int) by omega] at e2
        exact go _ J2 J3 (by omega) hl e2 e3
      · have g4 := of_decide_eq_true (bi1 g4)
        rw [if_pos g4] at hl
        rw [w32_id (x := 2 * (x - 97)) (by omega) (by omega), show 2 * (x - 97) = ((2 * (x - 97).toNat : Nat) : Int) by omega] at e2
        exact go _ J2 J3 (by omega) hl e2 e3
      · unfold wbad
        rw [decide_eq_true (by omega)]; rfl
    refine ⟨fun hh => by omega, fun _ => ⟨fun hh => by omega, fun _ => ⟨by omega, by omega, t_M_within ⟨fun g3 => at97 (Or.inl (of_decide_eq_true (bi1 g3))), fun g3 => t_M_within ⟨fun g4 => ⟨fun _ => bad k J hk hf hg0 ?_, fun hh => absurd rfl hh⟩, fun g4 => at97 (Or.inr (of_decide_eq_true (bi1 g4)))⟩⟩⟩⟩⟩
    have g3 := of_decide_eq_false (bi0 g3)
    have g4 := of_decide_eq_false (bi0 g4)
    rw [if_neg g3, if_neg g4] at hl
    unfold wbad
    rw [hl]; simp
