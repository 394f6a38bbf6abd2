/-! THE MODEL'S CALLS: join, to its end -/
theorem w3 {a b c : Nat} (h : a * b + c < 2147483648) : w32 ((w32 ((a : Int) * (b : Int))) + (c : Int)) = ((a * b + c : Nat) : Int) := by
  have e : (a : Int) * (b : Int) = ((a * b : Nat) : Int) := by rw [Int.natCast_mul]
  rw [e]
  generalize a * b = z at *
  rw [w32_id (x := (z : Int)) (by omega) (by omega), w32_id (by omega) (by omega)]; omega
theorem w2 {a c : Nat} (h : a + c < 2147483648) : w32 ((a : Int) + (c : Int)) = ((a + c : Nat) : Int) := by
  rw [w32_id (by omega) (by omega)]; omega
theorem m_join {xs : KS} {pq : Int} (hq : pq < 2147483648) : MOk xs 199 [(0, 19, 0, 101), (1, 0, 0, pq)] (opJoin pq) := by
  intro d S G I Q hS hI h
  have no : ∀ r J, mscr I J → opJoin pq S = (r, S) → Q r G J := fun r J hm e => by rw [e] at h; exact h G J (hS.ms hm) hm.lo
  have bad : ¬ (0 ≤ pq ∧ pq / 100 < S.1.length ∧ pq % 100 < S.1.length) → Q (-1) G I := fun hn => no _ _ (mscr.rf I) (by unfold opJoin; rw [if_neg hn])
  refine b_M_join_0 ⟨fun h1 => bad (by omega), fun h1 => ⟨by omega, ?_⟩⟩
  rw [(k100 h1 hq).1, (k100 h1 hq).2]
  refine t_M_isPicture hS.1.1 hS.1.2.1 ⟨fun h2 => bad (by have := of_decide_eq_false (bi0 h2); omega), fun h2 => ⟨by omega, t_M_isPicture hS.1.1 hS.1.2.1 ⟨fun h3 => ?_, fun h3 => bad (by have := of_decide_eq_false (bi0 h3); omega)⟩⟩⟩
  have h2 := of_decide_eq_true (bi1 h2)
  have h3 := of_decide_eq_true (bi1 h3)
  have h12 := hS.1.2.1
  obtain ⟨i, hi⟩ : ∃ i : Nat, i = (pq / 100).toNat := ⟨_, rfl⟩
  obtain ⟨j, hj⟩ : ∃ j : Nat, j = (pq % 100).toNat := ⟨_, rfl⟩
  unfold opJoin at no h
  rw [if_pos ⟨h1, h2.2, h3.2⟩, show pg S.1 (pq / 100) = pget S.1 (pq / 100).toNat from rfl, show pg S.1 (pq % 100) = pget S.1 (pq % 100).toNat from rfl, ← hi, ← hj] at no h
  rw [show pq / 100 = (i : Int) by omega, show pq % 100 = (j : Int) by omega]
  have hi : i < S.1.length := by omega
  have hj : j < S.1.length := by omega
  have oi := hI.ok i hi
  have oj := hI.ok j hj
  have ni := (hS.1.2.2 i hi).2.2.1
  obtain ⟨_, _, nj, rv, rs⟩ := hS.1.2.2 j hj
  have q1 := oi.1
  have q2 := oj.1
  have l1 := oi.len
  have l2 := oj.len
  rw [hS.1.1, ni, nj, w2 (by omega)]
  refine ⟨fun h4 => ⟨by omega, by omega, by omega, by omega, fun h5 => ⟨by omega, ?_⟩, fun h5 => no _ _ (mscr.rf I) (by rw [if_neg (by omega), if_pos (by omega)])⟩, fun h4 => no _ _ (mscr.rf I) (by rw [if_pos (by omega)])⟩
  rw [if_neg (by omega), if_neg (by omega), rbJ_eq oi oj] at h
  refine t_M_takesUp hS.1 hi (fun J0 hP0 hf0 => ?_)
  generalize hPP : pget S.1 i = P at *
  generalize hRR : pget S.1 j = R at *
  obtain ⟨_, _, p3, p4, p5⟩ := hP0
  have z0 : ∀ {p : Prop}, (∀ k, k < 0 → p) := fun k hk => absurd hk (Nat.not_lt_zero k)
  refine loop_up (n := R.1.length) (W := fun k => ∀ J : KI, (∀ c : Nat, c < P.1.length + k → J 106 (c : Int) = (pcx (jnd P R) c : Int) ∧ J 107 (c : Int) = bi (pov (jnd P R) c)) → (∀ a k, a ≠ 106 → a ≠ 107 → J a k = J0 a k) → kWP xs true (d + 80) 0 0 199 82 [(0, 19, 0, 101), (2, 0, 0, (j : Int)), (3, 0, 0, (P.2.length : Int)), (4, 0, 0, (k : Int))] [] G J Q) ?_ ?_ (Nat.zero_le _) J0 (fun c hc => by rw [(jnd_u (R := R) (show c < P.1.length by omega)).1, (jnd_u (R := R) (show c < P.1.length by omega)).2]; exact p4 c (by omega)) (fun _ _ _ _ => rfl)
  · intro J1 hJ1 hf1
    refine b_M_join_82 ⟨by omega, ?_⟩
    rw [hf1 _ _ (by omega) (by omega), hf0 _ _ (by omega) (by omega), nj, w32_id (x := 2 * (R.2.length : Int)) (by omega) (by omega)]
    refine ⟨fun _ => ?_, fun hh => by omega⟩
    refine loop_up (n := R.2.length) (W := fun k => ∀ J : KI, (∀ c : Nat, c < P.2.length + k → J 108 (c : Int) = sgi (psg (jnd P R) c)) → (∀ a k, a ≠ 108 → J a k = J1 a k) → kWP xs true (d + 80) 0 0 199 152 [(0, 19, 0, 101), (2, 0, 0, (j : Int)), (3, 0, 0, (P.2.length : Int)), (4, 0, 0, (k : Int))] [] G J Q) ?_ ?_ (Nat.zero_le _) J1 (fun c hc => by rw [hf1 _ _ (by omega) (by omega), jnd_t (show c < P.2.length by omega)]; exact p5 c (by omega)) (fun _ _ _ => rfl)
    · intro J2 hJ2 hf2
      refine b_M_join_152 ⟨by omega, ?_⟩
      rw [hf2 _ _ (by omega), hf1 _ _ (by omega) (by omega), hf0 _ _ (by omega) (by omega), nj, w2 (by omega)]
      refine ⟨fun _ => ⟨by omega, fun J3 e3 => ?_⟩, fun hh => by omega⟩
      have hP : MHd (jnd P R) J3 := ⟨by rw [jnd_l2]; omega, by rw [jnd_l1, jnd_l2]; omega, by rw [e3, kst_s, jnd_l2], fun k hk => by rw [e3, kst_n (by omega), kst_n (by omega), hf2 _ _ (by omega), hf2 _ _ (by omega)]; exact hJ1 k (by rw [jnd_l1] at hk; exact hk), fun c hc => by rw [e3, kst_n (by omega)]; exact hJ2 c (by rw [jnd_l2] at hc; exact hc)⟩
      have hm : mscr I J3 := hf0.ms.tr (fun a k n1 n2 => by rw [e3, kst_n (by omega), hf2 _ _ (by omega), hf1 _ _ (by omega) (by omega)])
      refine t_M_keeps (hS.1.ms hm) (by omega) hP (fun J4 hp4 hf4 => ?_)
      unfold addP at h
      exact h G J4 ((hS.ms hm).kp hp4 hf4) (fun a k hk => by rw [hf4 _ _ (by omega) (by omega)]; exact hm.lo a k hk)
    · intro c hc ih J hJ hf
      have hc2 := rs c hc
      refine b_M_join_152 ⟨by omega, ?_⟩
      rw [hf 102 _ (by omega), hf1 102 _ (by omega) (by omega), hf0 102 _ (by omega) (by omega), nj, w2 (a := P.2.length) (c := R.2.length) (by omega), w2 (a := P.2.length) (c := c) (by omega), show ((7 : Int)) = ((7 : Nat) : Int) from rfl, w3 (by omega), hf 105 _ (by omega), hf1 105 _ (by omega) (by omega), hf0 105 _ (by omega) (by omega), hc2, w32_inc (k := c) (by omega)]
      refine ⟨fun hh => by omega, fun _ => ⟨by omega, by omega, fun K ek => ih K (fun e he => ?_) (fun a k n => by rw [ek, kst_n (by omega)]; exact hf a k n)⟩⟩
      by_cases q : e = P.2.length + c
      · rw [q, ek, kst_s, jnd_s]
      · rw [ek, kst_n (by omega)]; exact hJ e (by omega)
  · intro k hk ih J hJ hf
    obtain ⟨r1, r2⟩ := rv k hk
    have rl := oj.lt hk
    refine b_M_join_82 ⟨by omega, ?_⟩
    rw [hf 102 _ (by omega) (by omega), hf0 102 _ (by omega) (by omega), nj, w32_id (x := 2 * (R.2.length : Int)) (by omega) (by omega), show ((14 : Int)) = ((14 : Nat) : Int) from rfl, w3 (a := 14) (by omega), show w32 (2 * (P.2.length : Int)) = w32 (((2 : Nat) : Int) * (P.2.length : Int)) from rfl, w3 (a := 2) (by omega), hf 103 _ (by omega) (by omega), hf0 103 _ (by omega) (by omega), r1, w2 (by omega), w32_inc (k := k) (by omega)]
    refine ⟨fun hh => by omega, fun _ => ⟨by omega, by omega, fun K1 e1 => ⟨by omega, by omega, ?_⟩⟩⟩
    have k1 : K1 104 ((14 * j + k : Nat) : Int) = bi (pov R k) := by rw [e1, kst_n (by omega), hf _ _ (by omega) (by omega), hf0 _ _ (by omega) (by omega)]; exact r2
    rw [k1]
    refine kzr_bi (fun K2 e2 => ih K2 (fun c hc => ?_) (fun a k n1 n2 => by rw [e2, kst_n (by omega), e1, kst_n (by omega)]; exact hf a k n1 n2))
    by_cases q : c = P.1.length + k
    · have hj1 := (jnd_v (P := P) (R := R) k)
      rw [if_pos hk] at hj1
      rw [q, hj1.1, hj1.2, show P.1.length + k = 2 * P.2.length + k by omega]
      exact ⟨by rw [e2, kst_n (by omega), e1, kst_s], by rw [e2, kst_s]⟩
    · rw [e2, kst_n (by omega), kst_n (by omega), e1, kst_n (by omega), kst_n (by omega)]
      exact hJ c (by omega)
