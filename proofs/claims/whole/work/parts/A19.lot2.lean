/-! THE MODEL: lots -/
theorem mcw_b (xs : KS) (ps : List Pic) (m L : Nat) (what : Int) (ws : Nat → Nat) : mcw xs ps m L what ws = 0 ∨ mcw xs ps m L what ws = 1 := by
  unfold mcw
  split
  · split
    · exact Or.inr rfl
    · split
      · exact Or.inr rfl
      · exact Or.inl rfl
  · exact Or.inl rfl
theorem sm_01 {f : Nat → Int} (h : ∀ x, f x = 0 ∨ f x = 1) : ∀ n : Nat, 0 ≤ sm f n ∧ sm f n ≤ n
  | 0 => by show (0 : Int) ≤ 0 ∧ (0 : Int) ≤ ((0 : Nat) : Int); simp
  | n + 1 => by
    have ih := sm_01 h n
    have := h n
    show 0 ≤ sm f n + f n ∧ sm f n + f n ≤ ((n + 1 : Nat) : Int)
    omega
theorem pw66 {K k : Nat} (hK : K ≤ 6) (hk : k ≤ 6) (hK0 : 0 < K) : K ^ k ≤ 46656 := by
  have h1 : K ^ k ≤ 6 ^ k := Nat.pow_le_pow_left hK k
  have h2 : 6 ^ k ≤ 6 ^ 6 := Nat.pow_le_pow_right (by omega) hk
  have h3 : 6 ^ 6 = 46656 := by decide
  omega
theorem m_lots {xs : KS} {ml what : Int} (hml : ml < 2147483648) (hx : XCh xs) : MOk xs 218 [(0, 19, 0, 101), (1, 0, 0, ml), (2, 0, 0, what)] (opLots xs ml what) := by
  intro d S G I Q hS hI h
  have hM : OwedM xs := hasM hx
  have h12 := hS.1.2.1
  have no : ∀ r J, mscr I J → opLots xs ml what S = (r, S) → Q r G J := fun r J hm e => by rw [e] at h; exact h G J (hS.ms hm) hm.lo
  have bad : ¬ (0 ≤ ml ∧ -2 ≤ what ∧ what < S.1.length ∧ 2 ≤ ml / 10 ∧ ml / 10 ≤ 4 ∧ 1 ≤ ml % 10 ∧ ml % 10 ≤ (if ml / 10 = 4 then 5 else 6)) → Q (-1) G I := fun hn => no _ _ (mscr.rf I) (by unfold opLots; rw [if_neg hn])
  refine b_M_lots_0 ⟨fun g1 => bad (by omega), fun g1 => ⟨by omega, ?_⟩⟩
  obtain ⟨z, rfl⟩ : ∃ z : Nat, ml = z := ⟨ml.toNat, by omega⟩
  have e1 : kidiv (z : Int) 10 = ((z / 10 : Nat) : Int) := kidiv_n (b := 10) (by omega) (by omega) (by omega)
  have e2 : kirem (z : Int) 10 = ((z % 10 : Nat) : Int) := kirem_n (b := 10) (by omega) (by omega) (by omega)
  rw [e1, e2]
  refine t_M_areStrands ⟨fun g2 => bad (by have := of_decide_eq_false (bi0 g2); omega), fun g2 => ⟨by omega, by omega, ?_⟩⟩
  have g2 := of_decide_eq_true (bi1 g2)
  obtain ⟨m, hm⟩ : ∃ m, m = z / 10 := ⟨_, rfl⟩
  obtain ⟨L, hL⟩ : ∃ L, L = z % 10 := ⟨_, rfl⟩
  have hzm : ((z : Int)) / 10 = (m : Int) := by omega
  have hzL : ((z : Int)) % 10 = (L : Int) := by omega
  rw [← hm, ← hL]
  rw [hzm, hzL] at bad
  have fin : ∀ J, mscr I J → 0 ≤ (z : Int) ∧ -2 ≤ what ∧ what < S.1.length ∧ 2 ≤ (m : Int) ∧ (m : Int) ≤ 4 ∧ 1 ≤ (L : Int) ∧ (L : Int) ≤ (if (m : Int) = 4 then 5 else 6) → Q (ltA xs S.1 m L what ((m - 1) ^ L) : Int) G J := fun J hmj hc => no _ _ hmj (by
    unfold opLots
    rw [hzm, hzL, if_pos hc]
    rfl)
  clear no h
  -- the words one by one
  have run : ∀ J : KI, mscr I J → (0 ≤ what → MCf 115 (pv xs (pget S.1 what.toNat)) J) → J 101 30 = (m : Int) → J 101 29 = (L : Int) → 1 ≤ L → L ≤ 6 → (0 ≤ (z : Int) ∧ -2 ≤ what ∧ what < S.1.length ∧ 2 ≤ (m : Int) ∧ (m : Int) ≤ 4 ∧ 1 ≤ (L : Int) ∧ (L : Int) ≤ (if (m : Int) = 4 then 5 else 6)) → kWP xs true (d + 80) 0 0 218 111 [(0, 19, 0, 101), (2, 0, 0, what), (3, 0, 0, ((2 * (m - 1) : Nat) : Int)), (4, 0, 0, 1), (5, 0, 0, 0)] [] G J Q := by
    intro J hf hW h30 h29 hL1 hL6 hc
    have hK : 2 * (m - 1) ≤ 6 := by omega
    have hK0 : 0 < 2 * (m - 1) := by omega
    generalize hKe : 2 * (m - 1) = K at *
    have hpw : ∀ k, k ≤ 6 → K ^ k ≤ 46656 := fun k hk => pw66 hK hk hK0
    have hN := hpw L hL6
    have words : kWP xs true (d + 80) 0 0 218 138 [(0, 19, 0, 101), (2, 0, 0, what), (3, 0, 0, (K : Int)), (4, 0, 0, ((K ^ L : Nat) : Int)), (5, 0, 0, 0), (6, 0, 0, ((0 : Nat) : Int))] [] G J Q := by
      refine loop_up (n := K ^ L) (W := fun w => ∀ J : KI, mscr I J → (0 ≤ what → MCf 115 (pv xs (pget S.1 what.toNat)) J) → J 101 30 = (m : Int) → J 101 29 = (L : Int) → kWP xs true (d + 80) 0 0 218 138 [(0, 19, 0, 101), (2, 0, 0, what), (3, 0, 0, (K : Int)), (4, 0, 0, ((K ^ L : Nat) : Int)), (5, 0, 0, (sm (fun w => mcw xs S.1 m L what (ltw (m - 1) w)) w)), (6, 0, 0, (w : Int))] [] G J Q) ?_ ?_ (Nat.zero_le _) J hf hW h30 h29
      · intro J hf _ _ _
        refine b_M_lots_138 ⟨fun _ => ?_, fun hh => by omega⟩
        rw [← hKe, lot_all (by omega) (by omega) (by omega)]
        exact fin J hf hc
      · intro w hw ih J hf hW h30 h29
        have hcb := sm_01 (f := fun w => mcw xs S.1 m L what (ltw (m - 1) w)) (fun x => mcw_b xs S.1 m L what _) w
        have hs1 : sm (fun w => mcw xs S.1 m L what (ltw (m - 1) w)) (w + 1) = sm (fun w => mcw xs S.1 m L what (ltw (m - 1) w)) w + mcw xs S.1 m L what (ltw (m - 1) w) := rfl
        rw [hs1] at ih
        generalize sm (fun w => mcw xs S.1 m L what (ltw (m - 1) w)) w = c at *
        have hlk : ∀ k, ltw (m - 1) w k = w / K ^ k % K := fun k => by unfold ltw; rw [hKe]
        have hlt : ∀ k, ltw (m - 1) w k < 2 * m - 2 := fun k => by
          rw [hlk]
          have := Nat.mod_lt (w / K ^ k) hK0
          omega
        refine b_M_lots_138 ⟨fun hh => by omega, fun _ => ?_⟩
        suffices q0 : kWP xs true (d + 80) 0 0 218 152 [(0, 19, 0, 101), (2, 0, 0, what), (3, 0, 0, (K : Int)), (4, 0, 0, ((K ^ L : Nat) : Int)), (5, 0, 0, c), (6, 0, 0, (w : Int)), (7, 0, 0, ((w / K ^ 0 : Nat) : Int)), (8, 0, 0, ((0 : Nat) : Int))] [] G J Q by
          rw [Nat.pow_zero, Nat.div_one] at q0
          exact q0
        refine loop_up (n := L) (W := fun k => ∀ J : KI, mscr I J → (0 ≤ what → MCf 115 (pv xs (pget S.1 what.toNat)) J) → J 101 30 = (m : Int) → J 101 29 = (L : Int) → (∀ i : Nat, i < k → J 120 (i : Int) = (ltw (m - 1) w i : Int)) → kWP xs true (d + 80) 0 0 218 152 [(0, 19, 0, 101), (2, 0, 0, what), (3, 0, 0, (K : Int)), (4, 0, 0, ((K ^ L : Nat) : Int)), (5, 0, 0, c), (6, 0, 0, (w : Int)), (7, 0, 0, ((w / K ^ k : Nat) : Int)), (8, 0, 0, (k : Int))] [] G J Q) ?_ ?_ (Nat.zero_le _) J hf hW h30 h29 (fun i hi => absurd hi (Nat.not_lt_zero i))
        · intro J hf hW h30 h29 hwd
          refine b_M_lots_152 ?_
          rw [h29]
          have nx : ∀ J2 : KI, mscr J J2 → (0 ≤ what → MCf 115 (pv xs (pget S.1 what.toNat)) J2) → J2 101 30 = (m : Int) → J2 101 29 = (L : Int) → ∀ y : Int, y = c + mcw xs S.1 m L what (ltw (m - 1) w) → kWP xs true (d + 80) 0 0 218 138 [(0, 19, 0, 101), (2, 0, 0, what), (3, 0, 0, (K : Int)), (4, 0, 0, ((K ^ L : Nat) : Int)), (5, 0, 0, y), (6, 0, 0, ((w + 1 : Nat) : Int))] [] G J2 Q := fun J2 m2 w2 q30 q29 y hy => by
            rw [hy]
            exact ih J2 (hf.tr m2) w2 q30 q29
          refine ⟨fun _ => t_M_closes (d := d + 78) (n := L) (m := m) (ws := ltw (m - 1) w) (fun k hk => ⟨hwd k hk, hlt k⟩) h29 h30 (by omega) (by omega) (by omega) (fun hO J2 hf2 => ⟨fun hh => absurd rfl hh, fun _ => ?_⟩) (fun hO J2 hP2 hf2 => ⟨fun _ => ⟨fun n2 => ?_, fun n2 => ?_⟩, fun hh => absurd hh (by decide)⟩), fun hh => by omega⟩
          · rw [w32_inc (k := w) (by omega)]
            refine nx J2 hf2.ms (fun hp e he => by rw [hf2 _ _ (by omega) (by omega)]; exact hW hp e he) (by rw [hf2 _ _ (by omega) (by omega)]; exact h30) (by rw [hf2 _ _ (by omega) (by omega)]; exact h29) c ?_
            unfold mcw
            rw [if_neg (by rw [hO]; simp)]; omega
          · obtain ⟨_, _, _, hok⟩ := cls_nm (by omega) (by omega) (by omega) (fun i hi => hlt i) hO
            refine t_M_findSumV hM hP2 hok (fun J3 hV3 hf3 => ?_)
            have m3 : mscr J J3 := hf2.ms.tr (hf3.ms (by omega) (by omega))
            have q30 : J3 101 30 = (m : Int) := by rw [hf3 _ _ (by omega), hf2 _ _ (by omega) (by omega)]; exact h30
            have q29 : J3 101 29 = (L : Int) := by rw [hf3 _ _ (by omega), hf2 _ _ (by omega) (by omega)]; exact h29
            have w3 : 0 ≤ what → MCf 115 (pv xs (pget S.1 what.toNat)) J3 := fun hp e he => by rw [hf3 _ _ (by omega), hf2 _ _ (by omega) (by omega)]; exact hW hp e he
            have val1 : wnt xs S.1 what (pv xs (clP (ltw (m - 1) w) L m)) = true → mcw xs S.1 m L what (ltw (m - 1) w) = 1 := fun hh => by
              unfold mcw
              rw [if_pos hO, if_neg n2, if_pos hh]
            have val0 : wnt xs S.1 what (pv xs (clP (ltw (m - 1) w) L m)) = false → mcw xs S.1 m L what (ltw (m - 1) w) = 0 := fun hh => by
              unfold mcw
              rw [if_pos hO, if_neg n2, if_neg (by rw [hh]; simp)]
            refine ⟨fun n1 => t_M_isLikeOther hV3 (w3 (by omega)) ?_, fun n1 => t_M_isPlain hV3 ?_⟩
            · have ewn : wnt xs S.1 what (pv xs (clP (ltw (m - 1) w) L m)) = eqV (pv xs (clP (ltw (m - 1) w) L m)) (pv xs (pget S.1 what.toNat)) := by
                unfold wnt
                rw [if_neg (by omega)]; rfl
              rw [ewn] at val1 val0
              rw [w32_inc (k := w) (by omega)]
              cases hb : eqV (pv xs (clP (ltw (m - 1) w) L m)) (pv xs (pget S.1 what.toNat)) with
              | true =>
                refine ⟨fun hh => absurd hh (by decide), fun _ => ?_⟩
                rw [w32_id (x := c + 1) (by omega) (by omega)]
                exact nx J3 m3 w3 q30 q29 _ (by rw [val1 hb])
              | false =>
                refine ⟨fun _ => ?_, fun hh => absurd rfl hh⟩
                rw [w32_id (x := c + 0) (by omega) (by omega)]
                exact nx J3 m3 w3 q30 q29 _ (by rw [val0 hb])
            · have ewn : wnt xs S.1 what (pv xs (clP (ltw (m - 1) w) L m)) = isPl (pv xs (clP (ltw (m - 1) w) L m)) := by
                unfold wnt
                rw [if_pos (by omega)]
              rw [ewn] at val1 val0
              rw [w32_inc (k := w) (by omega)]
              cases hb : isPl (pv xs (clP (ltw (m - 1) w) L m)) with
              | true =>
                refine ⟨fun hh => absurd hh (by decide), fun _ => ?_⟩
                rw [w32_id (x := c + 1) (by omega) (by omega)]
                exact nx J3 m3 w3 q30 q29 _ (by rw [val1 hb])
              | false =>
                refine ⟨fun _ => ?_, fun hh => absurd rfl hh⟩
                rw [w32_id (x := c + 0) (by omega) (by omega)]
                exact nx J3 m3 w3 q30 q29 _ (by rw [val0 hb])
          · rw [w32_inc (k := w) (by omega), w32_id (x := c + 1) (by omega) (by omega)]
            refine nx J2 hf2.ms (fun hp e he => by omega) (by rw [hf2 _ _ (by omega) (by omega)]; exact h30) (by rw [hf2 _ _ (by omega) (by omega)]; exact h29) _ ?_
            unfold mcw
            rw [if_pos hO, if_pos n2]
        · intro k hk ihk J hf hW h30 h29 hwd
          have hdl : w / K ^ k ≤ w := Nat.div_le_self _ _
          have er : kirem ((w / K ^ k : Nat) : Int) (K : Int) = ((w / K ^ k % K : Nat) : Int) := kirem_n (by omega) hK0 (by omega)
          have ed : kidiv ((w / K ^ k : Nat) : Int) (K : Int) = ((w / K ^ (k + 1) : Nat) : Int) := by
            rw [kidiv_n (by omega) hK0 (by omega), Nat.div_div_eq_div_mul, ← Nat.pow_succ]
          refine b_M_lots_152 ?_
          rw [h29, er, ed]
          refine ⟨fun hh => by omega, fun _ => ⟨by omega, by omega, fun J2 e2 => ⟨by omega, ?_⟩⟩⟩
          rw [w32_inc (k := k) (by omega)]
          refine ihk J2 (hf.tr (fun a x n1 n2 => by rw [e2, kst_n (by omega)])) (fun hp e he => by rw [e2, kst_n (by omega)]; exact hW hp e he) (by rw [e2, kst_n (by omega)]; exact h30) (by rw [e2, kst_n (by omega)]; exact h29) (fun i hi => ?_)
          by_cases hik : i = k
          · rw [hik, e2, kst_s, hlk]
          · rw [e2, kst_n (by omega)]
            exact hwd i (by omega)
    suffices q0 : kWP xs true (d + 80) 0 0 218 111 [(0, 19, 0, 101), (2, 0, 0, what), (3, 0, 0, (K : Int)), (4, 0, 0, ((K ^ 0 : Nat) : Int)), (5, 0, 0, ((0 : Nat) : Int))] [] G J Q by
      rw [Nat.pow_zero] at q0
      exact q0
    refine loop_up (n := L) (W := fun k => kWP xs true (d + 80) 0 0 218 111 [(0, 19, 0, 101), (2, 0, 0, what), (3, 0, 0, (K : Int)), (4, 0, 0, ((K ^ k : Nat) : Int)), (5, 0, 0, (k : Int))] [] G J Q) ?_ ?_ (Nat.zero_le _)
    · refine b_M_lots_111 ?_
      rw [h29]
      exact ⟨fun _ => words, fun hh => by omega⟩
    · intro k hk ih
      have hp1 := hpw (k + 1) (by omega)
      have ee : ((K ^ k : Nat) : Int) * (K : Int) = ((K ^ (k + 1) : Nat) : Int) := by rw [Nat.pow_succ, Int.natCast_mul]
      refine b_M_lots_111 ?_
      rw [h29, ee, w32_id (x := ((K ^ (k + 1) : Nat) : Int)) (by omega) (by omega), w32_inc (by omega)]
      exact ⟨fun hh => by omega, fun _ => ih⟩
  have e3 : ∀ y : Int, y = (m : Int) → w32 (w32 (2 * y) - 2) = ((2 * (m - 1) : Nat) : Int) := fun y hy => by
    rw [hy, w32_id (x := 2 * (m : Int)) (by omega) (by omega), w32_id (by omega) (by omega)]; omega
  have go : ∀ (J J1 J2 : KI), mscr I J → (0 ≤ what → MCf 115 (pv xs (pget S.1 what.toNat)) J) → J1 = kst J 101 30 (m : Int) → J2 = kst J1 101 29 (L : Int) → 1 ≤ L → L ≤ 6 → (0 ≤ (z : Int) ∧ -2 ≤ what ∧ what < S.1.length ∧ 2 ≤ (m : Int) ∧ (m : Int) ≤ 4 ∧ 1 ≤ (L : Int) ∧ (L : Int) ≤ (if (m : Int) = 4 then 5 else 6)) → kWP xs true (d + 80) 0 0 218 111 [(0, 19, 0, 101), (2, 0, 0, what), (3, 0, 0, w32 (w32 (2 * J2 101 30) - 2)), (4, 0, 0, 1), (5, 0, 0, 0)] [] G J2 Q := fun J J1 J2 hf hW q1 q2 hL1 hL6 hc => by
    have h30 : J2 101 30 = (m : Int) := by rw [q2, kst_n (by omega), q1, kst_s]
    rw [e3 _ h30]
    exact run J2 (hf.tr (fun a x n1 n2 => by rw [q2, kst_n (by omega), q1, kst_n (by omega)])) (fun hp e he => by rw [q2, kst_n (by omega), q1, kst_n (by omega)]; exact hW hp e he) h30 (by rw [q2, kst_s]) hL1 hL6 hc
  have at37 : ∀ u : Nat, (1 ≤ (L : Int) ∧ (L : Int) ≤ (u : Int) ↔ 1 ≤ (L : Int) ∧ (L : Int) ≤ (if (m : Int) = 4 then 5 else 6)) → u ≤ 6 → kWP xs true (d + 80) 0 0 218 37 [(0, 19, 0, 101), (1, 0, 0, (z : Int)), (2, 0, 0, what)] [(1, 0, (u : Int)), (1, 0, 1), (1, 0, (L : Int))] G I Q := by
    intro u hu hu6
    refine b_M_lots_37 (t_M_within ⟨fun g3 => bad (fun hh => of_decide_eq_false (bi0 g3) (hu.mpr ⟨hh.2.2.2.2.2.1, hh.2.2.2.2.2.2⟩)), fun g3 => ⟨fun g4 => bad (by omega), fun g4 => ⟨fun g5 => ⟨fun _ => ⟨by omega, fun J1 q1 => ⟨by omega, fun J2 q2 => ?_⟩⟩, fun hh => by omega⟩, fun g5 => t_M_isPicture hS.1.1 hS.1.2.1 ⟨fun g6 => ⟨fun hh => by omega, fun _ => ?_⟩, fun g6 => bad (by have := of_decide_eq_false (bi0 g6); omega)⟩⟩⟩⟩)
    · have g3 := of_decide_eq_true (bi1 g3)
      have g3' := hu.mp g3
      rw [e1, ← hm] at q1
      rw [e2, ← hL] at q2
      exact go I J1 J2 (mscr.rf I) (fun hp => by omega) q1 q2 (by omega) (by omega) ⟨by omega, g4, by omega, by omega, by omega, g3'.1, g3'.2⟩
    · have g3 := of_decide_eq_true (bi1 g3)
      have g3' := hu.mp g3
      have g6 := of_decide_eq_true (bi1 g6)
      obtain ⟨i, hi⟩ : ∃ i : Nat, what = i := ⟨what.toNat, by omega⟩
      have hi2 : i < S.1.length := by omega
      have hit : what.toNat = i := by omega
      rw [hi]
      refine t_M_takesUp hS.1 hi2 (fun J1 hP1 hf1 => t_M_findSumV hM hP1 (hI.ok i hi2) (fun J2 hV2 hf2 => t_M_keepsSum hV2 (fun J3 hV3 hf3 => ⟨by omega, fun J4 q4 => ⟨by omega, fun J5 q5 => ?_⟩⟩)))
      rw [e1, ← hm] at q4
      rw [e2, ← hL] at q5
      rw [← hi]
      exact go J3 J4 J5 ((hf1.ms.tr (hf2.ms (by omega) (by omega))).tr (hf3.ms (by omega) (by omega))) (fun hp => by rw [hit]; exact hV3) q4 q5 (by omega) (by omega) ⟨by omega, by omega, by omega, by omega, by omega, g3'.1, g3'.2⟩
  refine ⟨fun g3 => at37 6 ?_ (by omega), fun g3 => at37 5 ?_ (by omega)⟩
  · rw [if_neg g3]; exact Iff.rfl
  · rw [if_pos g3]; exact Iff.rfl
