/-! THE MODEL: shakes -/
theorem w32_i (x : Int) : -2147483648 ≤ w32 x ∧ w32 x < 2147483648 := by unfold w32; omega
theorem clp_v (v : Int) : clp v = if v < 0 then 0 else if 6 < v then 6 else v := by
  unfold clp
  by_cases h1 : v < 6
  · rw [if_pos h1]
    by_cases h2 : 0 < v
    · rw [if_pos h2, if_neg (by omega), if_neg (by omega)]
    · rw [if_neg h2]
      split
      · rfl
      · split <;> omega
  · rw [if_neg h1, if_pos (by omega), if_neg (by omega)]
    split <;> omega
theorem out_e {xs : KS} {ws : Nat → Nat} {n m : Nat} : out xs ws n m = if clO ws n m = true then (if isPl (pv xs (clP ws n m)) = true then 1 else 2) else 0 := rfl
theorem hasS {xs : KS} (hx : XCh xs) : OwedS xs := by
  intro d S G I Q len box st seed m t hS hI hl1 hl2 hb1 hb2 hs1 hs2 hm2 hm ht h
  have hM : OwedM xs := hasM hx
  have hsg := sg_tape hI.2.2.2.2.1
  have hLaw : LawS S.2.2.1 := hI.2.2.2.2.2.2.2.2.2.2.2.2.2.2
  have hX := hS.2.2.1
  have hx120 := hX.2.1
  generalize hwl : S.2.2.1.length = n at *
  have hW0 : n = 0 ∨ (wor (fw8 S.2.2.1) n e0).2.2 = false := by
    rcases hLaw with e | e
    · left; rw [← hwl, e]; rfl
    · right; rw [hwl] at e; exact e
  generalize hsq : shk xs (fw8 S.2.2.1) n len box st m seed = sq at *
  have sq0 : sq 0 = (seed, 0, 0) := by rw [← hsq]; rfl
  have sqs : ∀ k, sq (k + 1) = (zit (ltN (fw8 S.2.2.1) n (lenv len box st (drw (zn (sq k).1) 100) m)) (zn (sq k).1), (sq k).2.1 + (if out xs (wdz (zn (sq k).1) m) (ltN (fw8 S.2.2.1) n (lenv len box st (drw (zn (sq k).1) 100) m)) m = 2 then 1 else 0), (sq k).2.2 + (if out xs (wdz (zn (sq k).1) m) (ltN (fw8 S.2.2.1) n (lenv len box st (drw (zn (sq k).1) 100) m)) m = 0 then 1 else 0)) := fun k => by rw [← hsq]; rfl
  have sqb : ∀ k, (sq k).2.1 ≤ k ∧ (sq k).2.2 ≤ k := fun k => by rw [← hsq]; exact shk_le k
  clear hsq
  refine b_M_shakes_0 (fun J0 z0 J1 z1' => ?_)
  have hf1 : mscr I J1 := fun a k n1 n2 => by rw [z1', kst_n (by omega), z0, kst_n (by omega)]
  suffices q0 : kWP xs true (d + 70) 0 0 219 17 [(0, 19, 0, 101), (1, 0, 0, len), (2, 0, 0, box), (3, 0, 0, st), (4, 0, 0, (m : Int)), (6, 0, 0, (t : Int)), (7, 0, 0, (sq 0).1), (8, 0, 0, ((0 : Nat) : Int))] [] G J1 Q by
    rw [sq0] at q0
    exact q0
  refine loop_up (n := t) (W := fun k => ∀ J : KI, mscr I J → J 101 35 = ((sq k).2.1 : Int) → J 101 36 = ((sq k).2.2 : Int) → kWP xs true (d + 70) 0 0 219 17 [(0, 19, 0, 101), (1, 0, 0, len), (2, 0, 0, box), (3, 0, 0, st), (4, 0, 0, (m : Int)), (6, 0, 0, (t : Int)), (7, 0, 0, (sq k).1), (8, 0, 0, (k : Int))] [] G J Q) ?_ ?_ (Nat.zero_le _) J1 hf1 (by rw [z1', kst_n (by omega), z0, kst_s, sq0]; rfl) (by rw [z1', kst_s, sq0]; rfl)
  · intro J hf h35 h36
    exact b_M_shakes_17 ⟨fun _ => h J h35 h36 hf, fun hh => by omega⟩
  · intro k hk ih J hf h35 h36
    have hqs := sqs k
    have hqb := sqb k
    generalize sq k = q at *
    have ez : w32 (w32 (q.1 * 1103515245) + 12345) = zn q.1 := rfl
    refine b_M_shakes_17 ⟨fun hh => by omega, fun _ => ⟨by omega, fun J2 e2 => ⟨by omega, fun J3 e3 => ⟨by omega, fun J4 e4 => ⟨by omega, by omega, fun J5 e5 => ⟨by omega, fun J6 e6 => ?_⟩⟩⟩⟩⟩⟩
    rw [ez] at e5 ⊢
    generalize hz : zn q.1 = z1 at *
    have edr : kirem (kiushr z1 8) 100 = drw z1 100 := rfl
    rw [edr] at e5
    have hf6 : mscr I J6 := hf.tr (fun a x n1 n2 => by rw [e6, kst_n (by omega), e5, kst_n (by omega), e4, kst_n (by omega), e3, kst_n (by omega), e2, kst_n (by omega)])
    have g35 : J6 101 35 = (q.2.1 : Int) := by rw [e6, kst_n (by omega), e5, kst_n (by omega), e4, kst_n (by omega), e3, kst_n (by omega), e2, kst_n (by omega)]; exact h35
    have g36 : J6 101 36 = (q.2.2 : Int) := by rw [e6, kst_n (by omega), e5, kst_n (by omega), e4, kst_n (by omega), e3, kst_n (by omega), e2, kst_n (by omega)]; exact h36
    have hnm : ∀ x : Nat, x < 5 → J6 118 (x : Int) = lenv len box st (drw z1 100) m (6 + (x : Int)) := fun x hx5 => by
      unfold lenv
      rcases (by omega : x = 0 ∨ x = 1 ∨ x = 2 ∨ x = 3 ∨ x = 4) with e | e | e | e | e <;> subst e
      · rw [if_pos (by omega), e6, kst_n (by omega), e5, kst_n (by omega), e4, kst_n (by omega), e3, kst_n (by omega), e2]; exact kst_s
      · rw [if_neg (by omega), if_pos (by omega), e6, kst_n (by omega), e5, kst_n (by omega), e4, kst_n (by omega), e3]; exact kst_s
      · rw [if_neg (by omega), if_neg (by omega), if_pos (by omega), e6, kst_n (by omega), e5, kst_n (by omega), e4]; exact kst_s
      · rw [if_neg (by omega), if_neg (by omega), if_neg (by omega), if_pos (by omega), e6, kst_n (by omega), e5]; exact kst_s
      · rw [if_neg (by omega), if_neg (by omega), if_neg (by omega), if_neg (by omega), e6]; exact kst_s
    have g19 : J6 101 19 = if n = 0 then -1 else (n : Int) := by rw [hf6 _ _ (by omega) (by omega), hX.1, hwl]
    clear e2 e3 e4 e5 e6
    generalize hev : lenv len box st (drw z1 100) m = ev at *
    have hLt := ltN_le (fw8 S.2.2.1) n ev
    -- with the letters' number known
    have at99 : ∀ (v : Int) (J7 : KI), (clp v).toNat = ltN (fw8 S.2.2.1) n ev → mscr I J7 → J7 101 35 = (q.2.1 : Int) → J7 101 36 = (q.2.2 : Int) → kWP xs true (d + 70) 0 0 219 99 [(0, 19, 0, 101), (1, 0, 0, len), (2, 0, 0, box), (3, 0, 0, st), (4, 0, 0, (m : Int)), (6, 0, 0, (t : Int)), (7, 0, 0, z1), (8, 0, 0, (k : Int))] [(0, 0, v)] G J7 Q := by
      intro v J7 hv hf7 a35 a36
      generalize hL : ltN (fw8 S.2.2.1) n ev = L at *
      have at137 : ∀ J9 : KI, mscr I J9 → J9 101 35 = (q.2.1 : Int) → J9 101 36 = (q.2.2 : Int) → J9 101 29 = (L : Int) → J9 101 30 = (m : Int) → kWP xs true (d + 70) 0 0 219 137 [(0, 19, 0, 101), (1, 0, 0, len), (2, 0, 0, box), (3, 0, 0, st), (4, 0, 0, (m : Int)), (6, 0, 0, (t : Int)), (7, 0, 0, z1), (8, 0, 0, (k : Int)), (10, 0, 0, ((0 : Nat) : Int))] [] G J9 Q := by
        intro J9 hf9 c35 c36 c29 c30
        refine loop_up (n := L) (W := fun j => ∀ J : KI, mscr I J → J 101 35 = (q.2.1 : Int) → J 101 36 = (q.2.2 : Int) → J 101 29 = (L : Int) → J 101 30 = (m : Int) → (∀ i : Nat, i < j → J 120 (i : Int) = (wdz z1 m i : Int) ∧ wdz z1 m i < 2 * m - 2) → kWP xs true (d + 70) 0 0 219 137 [(0, 19, 0, 101), (1, 0, 0, len), (2, 0, 0, box), (3, 0, 0, st), (4, 0, 0, (m : Int)), (6, 0, 0, (t : Int)), (7, 0, 0, zit j z1), (8, 0, 0, (k : Int)), (10, 0, 0, (j : Int))] [] G J Q) ?_ ?_ (Nat.zero_le _) J9 hf9 c35 c36 c29 c30 (fun i hi => absurd hi (Nat.not_lt_zero i))
        · intro J hf h35 h36 h29 h30 hw
          refine b_M_shakes_137 ?_
          rw [h29]
          refine ⟨fun _ => t_M_closes (d := d + 68) (n := L) (m := m) (ws := wdz z1 m) hw h29 h30 hm2 hm (by omega) (fun hO J2 hf2 => ⟨fun hh => absurd rfl hh, fun _ J3 e3 => ?_⟩) (fun hO J2 hP2 hf2 => ⟨fun _ => ?_, fun hh => absurd hh (by decide)⟩), fun hh => by omega⟩
          · have ho : out xs (wdz z1 m) L m = 0 := by rw [out_e, if_neg (by rw [hO]; simp)]
            rw [ho] at hqs
            rw [hf2 _ _ (by omega) (by omega), h36, w32_inc (by omega)] at e3
            rw [w32_inc (by omega)]
            have := ih J3 (hf.tr (hf2.ms.tr (fun a x n1 n2 => by rw [e3, kst_n (by omega)]))) (by rw [e3, kst_n (by omega), hf2 _ _ (by omega) (by omega), h35, hqs]; rfl) (by rw [e3, kst_s, hqs]; rfl)
            rw [hqs] at this
            exact this
          · obtain ⟨_, _, _, hok⟩ := cls_nm hm2 hm (by omega) (fun i hi => (hw i hi).2) hO
            refine t_M_findSumV hM hP2 hok (fun J3 hV3 hf3 => t_M_isPlain hV3 ?_)
            have j35 : J3 101 35 = (q.2.1 : Int) := by rw [hf3 _ _ (by omega), hf2 _ _ (by omega) (by omega)]; exact h35
            have j36 : J3 101 36 = (q.2.2 : Int) := by rw [hf3 _ _ (by omega), hf2 _ _ (by omega) (by omega)]; exact h36
            have m3 : mscr I J3 := hf.tr (hf2.ms.tr (hf3.ms (by omega) (by omega)))
            have b35 : J2 101 35 = (q.2.1 : Int) := by rw [hf2 _ _ (by omega) (by omega)]; exact h35
            cases hpl : isPl (pv xs (clP (wdz z1 m) L m)) with
            | true =>
              have ho : out xs (wdz z1 m) L m = 1 := by rw [out_e, if_pos hO, if_pos hpl]
              rw [ho] at hqs
              refine ⟨fun hh => absurd hh (by decide), fun _ J4 e4 => ?_⟩
              rw [j35, Int.add_zero, w32_id (by omega) (by omega)] at e4
              rw [w32_inc (by omega)]
              have := ih J4 (m3.tr (fun a x n1 n2 => by rw [e4, kst_n (by omega)])) (by rw [e4, kst_s, hqs]; rfl) (by rw [e4, kst_n (by omega), j36, hqs]; rfl)
              rw [hqs] at this
              exact this
            | false =>
              have ho : out xs (wdz z1 m) L m = 2 := by rw [out_e, if_pos hO, if_neg (by rw [hpl]; simp)]
              rw [ho] at hqs
              refine ⟨fun _ J4 e4 => ?_, fun hh => absurd rfl hh⟩
              rw [j35, w32_inc (by omega)] at e4
              rw [w32_inc (by omega)]
              have := ih J4 (m3.tr (fun a x n1 n2 => by rw [e4, kst_n (by omega)])) (by rw [e4, kst_s, hqs]; rfl) (by rw [e4, kst_n (by omega), j36, hqs]; rfl)
              rw [hqs] at this
              exact this
        · intro j hj ihj J hf h35 h36 h29 h30 hw
          have ek : w32 (w32 (2 * (m : Int)) - 2) = ((2 * m - 2 : Nat) : Int) := by rw [w32_id (x := 2 * (m : Int)) (by omega) (by omega), w32_id (by omega) (by omega)]; omega
          have ez2 : w32 (w32 (zit j z1 * 1103515245) + 12345) = zit (j + 1) z1 := rfl
          refine b_M_shakes_137 ?_
          rw [h29, ek, ez2]
          have ed : kirem (kiushr (zit (j + 1) z1) 8) ((2 * m - 2 : Nat) : Int) = drw (zit (j + 1) z1) ((2 * m - 2 : Nat) : Int) := rfl
          rw [ed]
          obtain ⟨y, hy, hy2⟩ := drw_lt (zit (j + 1) z1) (b := 2 * m - 2) (by omega) (by omega)
          have ewd : wdz z1 m j = y := by unfold wdz; rw [hy]; rfl
          rw [hy]
          refine ⟨fun hh => by omega, fun _ => ⟨by omega, by omega, fun J2 e2 => ?_⟩⟩
          rw [w32_inc (by omega)]
          refine ihj J2 (hf.tr (fun a x n1 n2 => by rw [e2, kst_n (by omega)])) (by rw [e2, kst_n (by omega)]; exact h35) (by rw [e2, kst_n (by omega)]; exact h36) (by rw [e2, kst_n (by omega)]; exact h29) (by rw [e2, kst_n (by omega)]; exact h30) (fun i hi => ?_)
          by_cases hij : i = j
          · rw [hij, ewd, e2]
            exact ⟨kst_s, hy2⟩
          · rw [e2, kst_n (by omega)]
            exact hw i (by omega)
      have wr : ∀ (x : Int) (J8 J9 : KI), x = (L : Int) → J8 = kst J7 101 29 x → J9 = kst J8 101 30 (m : Int) → kWP xs true (d + 70) 0 0 219 137 [(0, 19, 0, 101), (1, 0, 0, len), (2, 0, 0, box), (3, 0, 0, st), (4, 0, 0, (m : Int)), (6, 0, 0, (t : Int)), (7, 0, 0, z1), (8, 0, 0, (k : Int)), (10, 0, 0, ((0 : Nat) : Int))] [] G J9 Q := fun x J8 J9 hxL e8 e9 =>
        at137 J9 (hf7.tr (fun a x n1 n2 => by rw [e9, kst_n (by omega), e8, kst_n (by omega)])) (by rw [e9, kst_n (by omega), e8, kst_n (by omega)]; exact a35) (by rw [e9, kst_n (by omega), e8, kst_n (by omega)]; exact a36) (by rw [e9, kst_n (by omega), e8, kst_s]; exact hxL) (by rw [e9, kst_s])
      rw [clp_v] at hv
      refine b_M_shakes_99 ⟨fun g1 => ⟨fun g2 J8 e8 J9 e9 => wr v J8 J9 ?_ e8 e9, fun g2 J8 e8 J9 e9 => wr 6 J8 J9 ?_ e8 e9⟩, fun g1 J8 e8 J9 e9 => wr 0 J8 J9 ?_ e8 e9⟩
      · rw [if_neg (by omega), if_neg (by omega)] at hv; omega
      · rw [if_neg (by omega), if_pos (by omega)] at hv; omega
      · rw [if_pos (by omega)] at hv; omega
    rw [g19]
    by_cases h0 : n = 0
    · rw [if_pos h0]
      refine ⟨fun hh => by omega, fun _ => at99 0 J6 ?_ hf6 g35 g36⟩
      unfold ltN
      rw [if_pos h0]
      decide
    · rw [if_neg h0]
      refine ⟨fun _ => ?_, fun hh => by omega⟩
      refine t_M_workOut (d := d + 26) (f := fw8 S.2.2.1) (g := fun k => S.2.2.1.getD k 0) (e := ev) hsg hx120 (Or.inr ⟨rfl, fun x hx5 => ?_⟩) hnm (fun v o J7 hJ7 hv7 hf7 => ?_)
      · rw [hf6 _ _ (by omega) (by omega)]
        exact hX.2.2 x (by omega)
      · have hw0 : (wor (fw8 S.2.2.1) n ev).2.2 = false := by
          rw [wor_e ev e0]
          exact hW0.elim (fun e => absurd e h0) id
        refine at99 v J7 ?_ (hf6.tr (fun a x n1 n2 => hf7 a x (by omega))) (by rw [hf7 _ _ (by omega)]; exact g35) (by rw [hf7 _ _ (by omega)]; exact g36)
        unfold ltN
        rw [if_neg h0, hv7 hw0]
