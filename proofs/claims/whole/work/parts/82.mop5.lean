/-! THE MODEL'S CALLS: the law; changes -/
theorem wor_pos {f : Nat → Int} {n : Nat} {e : Int → Int} (h : (wor f n e).2.2 = false) : 0 < n := by
  rcases Nat.eq_zero_or_pos n with h0 | h0
  · exfalso
    have hM := (mon_lexp (f := f) (mon_lsU (f := f) (n := n) (e := e) 6)).2.2.2.2 0 (by omega)
    have hS := str_lexp (f := f) (mon_lsU 6) (str_lsU (f := f) (n := n) (e := e) 6) 0 (by omega)
    have hw : (lE f n e 0 false).2.2 = true := by
      cases hw : (lE f n e 0 false).2.2 with
      | true => rfl
      | false => have := hS hw; omega
    unfold wor wthL at h
    simp only at h
    rw [if_pos hw] at h
    unfold wln wend at h
    rw [if_neg (by simp), if_pos (Or.inl rfl), if_pos (Or.inl hw)] at h
    rw [show ((lE f n e 0 false).1, (lE f n e 0 false).2).2.2 = true from hw] at h
    cases h
  · exact h0
theorem RRep.mw {S : St} {I J : KI} (h : RRep S I) (hf : mwf I J) : RRep S J := h.ms (fun a k n1 _ => hf a k (by omega))
theorem sg_tape {T : List Int} (h : ∀ b ∈ T, 0 ≤ b ∧ b < 256) : SgOk (fw8 T) (fun k => T.getD k 0) T.length := fun k hk => by
  have := h _ (getD_memI hk)
  exact ⟨this.1, this.2, rfl⟩
theorem m_law {xs : KS} : MOk xs 184 [(0, 19, 0, 101)] opLaw := by
  intro d S G I Q hS hI h
  have hT := hS.2.1
  unfold opLaw at h
  simp only at h
  refine b_M_law_0 ?_
  rw [hT.1]
  have en : ∀ k : Nat, k < 5 → I 118 (k : Int) = (fun z => I 118 (z - 6)) (6 + (k : Int)) := fun k hk => by
    show _ = I 118 (6 + (k : Int) - 6)
    rw [show 6 + (k : Int) - 6 = (k : Int) by omega]
  refine t_M_workOut (d := d + 36) (f := fw8 S.2.1) (g := fun k => S.2.1.getD k 0) (e := fun z => I 118 (z - 6)) (sg_tape hI.2.2.1) hT.2.1 (Or.inl ⟨rfl, hT.2.2⟩) en (fun v o J hJ hv hf => ?_)
  rw [wor_e _ e0] at hJ hv
  intro J1 e1
  have g17 : J 101 17 = (S.2.1.length : Int) := by rw [hf _ _ (by omega)]; exact hT.1
  have g23 : J1 101 23 = J 101 23 := by rw [e1, kst_n (by omega)]
  rw [g23, g17]
  have hf1 : ∀ a k, ¬ (a = 101 ∧ (k = 17 ∨ (20 ≤ k ∧ k ≤ 24))) → J1 a k = I a k := fun a k hk => by rw [e1, kst_n (by omega)]; exact hf a k (by omega)
  have hS1 : RRep (S.1, [], S.2.2) J1 := hS.tape (fun a k n1 n2 => hf1 a k (by omega)) ⟨by rw [e1, kst_s]; rfl, by simp, fun k hk => absurd hk (Nat.not_lt_zero k)⟩
  have hl1 : lof I J1 := fun a k hk => hf1 a k (by omega)
  cases hw : (wor (fw8 S.2.1) S.2.1.length e0).2.2 with
  | true =>
    rw [hw] at hJ
    rw [if_pos hw] at h
    rw [hJ.2.2.2.2 rfl]
    exact ⟨fun hh => by omega, fun _ => h G J1 hS1 hl1⟩
  | false =>
    have hpos := wor_pos hw
    rw [hw] at hJ
    rw [if_neg (by rw [hw]; simp)] at h
    rw [(hJ.2.2.2.1 rfl).1]
    refine ⟨fun _ => ?_, fun hh => absurd hh (by decide)⟩
    refine loop_up (n := S.2.1.length) (W := fun j => ∀ J2 : KI, (∀ a k, a ≠ 117 → J2 a k = J1 a k) → (∀ k : Nat, k < j → J2 117 (k : Int) = S.2.1.getD k 0) → kWP xs true (d + 80) 0 0 184 37 [(0, 19, 0, 101), (2, 0, 0, (S.2.1.length : Int)), (3, 0, 0, (j : Int))] [] G J2 Q) ?_ ?_ (Nat.zero_le _) J1 (fun _ _ _ => rfl) (fun k hk => absurd hk (Nat.not_lt_zero k))
    · intro J2 h2 ht
      refine b_M_law_37 ⟨fun _ J3 e3 => ?_, fun hh => by omega⟩
      have h3 : ∀ a k, a ≠ 117 → ¬ (a = 101 ∧ k = 19) → J3 a k = J1 a k := fun a k n1 n2 => by rw [e3, kst_n (by omega)]; exact h2 a k n1
      obtain ⟨r1, r2, _, r4, r5, r6⟩ := hS1
      refine h G J3 ⟨r1.fr (fun a k hk => h3 _ _ (by omega) (by omega)), r2.fr (fun a k hk => h3 _ _ (by omega) (by omega)), ⟨?_, hT.2.1, fun k hk => ?_⟩, r4.fr (fun a k hk => h3 _ _ (by omega) (by omega)), r5.fr (fun a k hk => h3 _ _ (by omega) (by omega)), r6.fr (fun a k _ _ => h3 _ _ (by omega) (by omega))⟩ (fun a k hk => by rw [h3 _ _ (by omega) (by omega)]; exact hl1 a k hk)
      · rw [e3, kst_s]
        show _ = if S.2.1.length = 0 then (-1 : Int) else (S.2.1.length : Int)
        rw [if_neg (by omega)]
      · rw [e3, kst_n (by omega)]; exact ht k hk
    · intro j hj ih J2 h2 ht
      have hl := hT.2.1
      refine b_M_law_37 ⟨fun hh => by omega, fun _ => ⟨by omega, by omega, fun J3 e3 => ?_⟩⟩
      rw [h2 116 _ (by omega), hf1 116 _ (by omega), hT.2.2 j hj] at e3
      rw [w32_inc (by omega)]
      refine ih J3 (fun a k hk => by rw [e3, kst_n (by omega)]; exact h2 a k hk) (fun k hk => ?_)
      rw [e3]
      by_cases hkj : k = j
      · rw [hkj, kst_s]
      · rw [kst_n (by omega)]; exact ht k (by omega)
theorem t_M_changesAt {xs : KS} {d c : Nat} {P : Pic} {G : KG} {I : KI} {Q : KQ} (hP : MHd P I) (hc : c < P.2.length) (h : ∀ I' : KI, MHd (chg P c) I' → kfr 107 109 I I' → Q 0 G I') : kWP xs true (d) 0 0 196 0 [(0, 19, 0, 101), (1, 0, 0, (c : Int))] [] G I Q := by
  obtain ⟨a7, a2, an, av, as⟩ := hP
  refine b_M_changesAt_0 ?_
  refine loop_up (n := P.1.length) (W := fun j => ∀ J : KI, (∀ k : Nat, k < P.1.length → J 107 (k : Int) = if k < j then bi (pov P k != decide (pcx P k = c)) else bi (pov P k)) → kfr 107 108 I J → kWP xs true (d) 0 0 196 2 [(0, 19, 0, 101), (1, 0, 0, (c : Int)), (2, 0, 0, (j : Int))] [] G J Q) ?_ ?_ (Nat.zero_le _) I (fun k hk => by rw [if_neg (by omega)]; exact (av k hk).2) (kfr.rf _ _ _)
  · intro J hJ hf
    refine b_M_changesAt_2 ?_
    rw [hf _ _ (by omega), an, w32_id (x := 2 * (P.2.length : Int)) (by omega) (by omega)]
    refine ⟨fun _ => ⟨by omega, by omega, fun J1 e1 => ?_⟩, fun hh => by omega⟩
    have hs := sgi_b (psg P c)
    rw [hf 108 _ (by omega), as c hc, w32_id (by omega) (by omega)] at e1
    have cl : (chg P c).1.length = P.1.length := by unfold chg; simp
    have c2 : (chg P c).2.length = P.2.length := by unfold chg; simp
    have hf1 : kfr 107 109 I J1 := fun a k hk => by rw [e1, kst_n (by omega)]; exact hf a k (by omega)
    refine h J1 ⟨by rw [c2]; exact a7, by rw [cl, c2]; exact a2, by rw [hf1 _ _ (by omega), c2]; exact an, fun k hk => ?_, fun e he => ?_⟩ hf1
    · rw [cl] at hk
      refine ⟨by rw [hf1 _ _ (by omega), pcx_chg]; exact (av k hk).1, ?_⟩
      rw [e1, kst_n (by omega), hJ k hk, if_pos hk, pov_chg P c k hk]
    · rw [c2] at he
      rw [psg_chg P c e hc, e1]
      by_cases hec : e = c
      · rw [hec, kst_s]
        cases psg P c <;> simp [sgi]
      · rw [kst_n (by omega), hf _ _ (by omega), as e he]
        simp [hec]
  · intro j hj ih J hJ hf
    have gj := hJ j hj
    rw [if_neg (by omega)] at gj
    have go : ∀ (J1 : KI) (v : Int), J1 = kst J 107 (j : Int) v → v = bi (pov P j != decide (pcx P j = c)) → kWP xs true (d) 0 0 196 2 [(0, 19, 0, 101), (1, 0, 0, (c : Int)), (2, 0, 0, ((j + 1 : Nat) : Int))] [] G J1 Q := fun J1 v e1 ev => by
      refine ih J1 (fun k hk => ?_) (hf.tr (fun a k hk => by rw [e1, kst_n (by omega)]))
      rw [e1]
      by_cases hkj : k = j
      · rw [hkj, kst_s, if_pos (by omega)]; exact ev
      · rw [kst_n (by omega), hJ k hk]
        by_cases hk2 : k < j
        · rw [if_pos hk2, if_pos (show k < j + 1 by omega)]
        · rw [if_neg hk2, if_neg (show ¬ k < j + 1 by omega)]
    refine b_M_changesAt_2 ?_
    rw [hf 101 5 (by omega), an, w32_id (x := 2 * (P.2.length : Int)) (by omega) (by omega), hf 106 _ (by omega), (av j hj).1, gj, w32_inc (by omega)]
    refine ⟨fun hh => by omega, fun _ => ⟨by omega, fun h1 => ⟨by omega, by omega, kzr_bi (fun J1 e1 => go J1 _ e1 ?_)⟩, fun h1 => ⟨by omega, fun h2 => ⟨by omega, fun J1 e1 => go J1 _ e1 ?_⟩, fun h2 => ⟨by omega, fun J1 e1 => go J1 _ e1 ?_⟩⟩⟩⟩
    · rw [decide_eq_false (by omega)]; cases pov P j <;> rfl
    · rw [decide_eq_true (by omega), bi1 h2]; rfl
    · rw [decide_eq_true (by omega), bi0 h2]; rfl
theorem t_M_flips {xs : KS} {d i c : Nat} {ps : List Pic} {G : KG} {I : KI} {Q : KQ} (hS : MPs ps I) (hi : i < ps.length) (hc : c < (pget ps i).2.length) (h : ∀ I' : KI, MPs (ps.set i (chg (pget ps i) c)) I' → MHd (chg (pget ps i) c) I' → (∀ a k, ¬ (a = 101 ∧ k = 5) → ¬ (102 ≤ a ∧ a ≤ 108) → I' a k = I a k) → Q 0 G I') : kWP xs true (d + 1) 0 0 200 0 [(0, 19, 0, 101), (1, 0, 0, ((10 * i + c : Nat) : Int))] [] G I Q := by
  have h12 := hS.2.1
  have h7 := (hS.2.2 i hi).1
  have k1 := k10 (v := ((10 * i + c : Nat) : Int)) (by omega) (by omega)
  refine b_M_flips_0 ⟨by omega, ?_⟩
  rw [k1.1, k1.2, show ((10 * i + c : Nat) : Int) / 10 = (i : Int) by omega, show ((10 * i + c : Nat) : Int) % 10 = (c : Int) by omega]
  refine t_M_takesUp hS hi (fun J1 hP1 hf1 => ⟨by omega, t_M_changesAt hP1 hc (fun J2 hP2 hf2 => ⟨by omega, t_M_laysDown (by omega) hP2 (fun J3 hA hf3 => ?_)⟩)⟩)
  have hS2 : MPs ps J2 := hS.fr (fun a k hk => by rw [hf2 _ _ (by omega), hf1 _ _ (by omega) (by omega)])
  exact h J3 (hS2.upd hi hA hf3) (hP2.fr (fun a k hk => hf3 _ _ (by omega))) (fun a k n1 n2 => by rw [hf3 _ _ (by omega), hf2 _ _ (by omega), hf1 _ _ n1 (by omega)])
theorem RRep.chg {S : St} {ps : List Pic} {L : List Int} {u : Nat} {I J : KI} (h : RRep S I) (hf : ∀ a k, ¬ (a = 101 ∧ (k = 5 ∨ k = 32 ∨ k = 33)) → ¬ (102 ≤ a ∧ a ≤ 115) → a ≠ 121 → J a k = I a k) (hp : MPs ps J) (hC : MCh L u J) : RRep (ps, S.2.1, S.2.2.1, (L, u), S.2.2.2.2) J := by
  obtain ⟨_, h2, h3, _, h5, h6⟩ := h
  exact ⟨hp, h2.fr (fun a k hk => hf _ _ (by omega) (by omega) (by omega)), h3.fr (fun a k hk => hf _ _ (by omega) (by omega) (by omega)), hC, h5.fr (fun a k hk => hf _ _ (by omega) (by omega) (by omega)), h6.fr (fun a k _ _ => hf _ _ (by omega) (by omega) (by omega))⟩
theorem getD_take {L : List Int} {u k : Nat} (h : k < u) : (L.take u).getD k 0 = L.getD k 0 := by
  rw [List.getD_eq_getElem?_getD, List.getElem?_take_of_lt h, ← List.getD_eq_getElem?_getD]
theorem w32_pc {i e : Nat} (hi : i < 100) (he : e < 100) : w32 (w32 (10 * (i : Int)) + (e : Int)) = ((10 * i + e : Nat) : Int) := by rw [w32_id (x := 10 * (i : Int)) (by omega) (by omega), w32_id (by omega) (by omega)]; omega
theorem m_change {xs : KS} {p c : Int} : MOk xs 201 [(0, 19, 0, 101), (1, 0, 0, p), (2, 0, 0, c)] (opChange p c) := by
  intro d S G I Q hS hI h
  have no : ∀ r, opChange p c S = (r, S) → Q r G I := fun r e => by rw [e] at h; exact h G I hS (lof.rf I)
  refine b_M_change_0 (t_M_isPicture hS.1.1 hS.1.2.1 ⟨fun h1 => no _ (by unfold opChange; rw [if_neg (fun hh => of_decide_eq_false (bi0 h1) ⟨hh.1, hh.2.1⟩)]), fun h1 => ?_⟩)
  have hp : 0 ≤ p ∧ p < S.1.length := of_decide_eq_true (bi1 h1)
  have h12 := hS.1.2.1
  obtain ⟨i, rfl⟩ : ∃ i : Nat, p = i := ⟨p.toNat, by omega⟩
  have hi : i < S.1.length := by omega
  obtain ⟨a7, a2, an, av, as⟩ := hS.1.2.2 i hi
  unfold opChange at no h
  rw [show pg S.1 (i : Int) = pget S.1 i from rfl] at no h
  rw [an, w32_id (x := ((pget S.1 i).2.length : Int) - 1) (by omega) (by omega)]
  refine ⟨by omega, t_M_within ⟨fun h2 => ?_, fun h2 => no _ (by rw [if_neg (by have := of_decide_eq_false (bi0 h2); omega)])⟩⟩
  have h2 := of_decide_eq_true (bi1 h2)
  obtain ⟨e, rfl⟩ : ∃ e : Nat, c = e := ⟨c.toNat, by omega⟩
  rw [if_pos ⟨hp.1, hp.2, h2.1, by omega⟩] at h
  simp only [Int.toNat_natCast] at h
  obtain ⟨m1, m2, m3, m4, m5⟩ := hS.2.2.2.1
  generalize hL : S.2.2.2.1.1 = L at *
  generalize hu : S.2.2.2.1.2 = u at *
  rw [show 10 * (i : Int) + (e : Int) = ((10 * i + e : Nat) : Int) by omega] at h
  -- what is kept, then flipped
  have fin : ∀ J3 : KI, MCh (chAdd L u ((10 * i + e : Nat) : Int)) (chLen u) J3 → (∀ a k, ¬ (a = 101 ∧ (k = 32 ∨ k = 33)) → a ≠ 121 → J3 a k = I a k) → kWP xs true (d + 79) 0 0 200 0 [(0, 19, 0, 101), (1, 0, 0, ((10 * i + e : Nat) : Int))] [] G J3 (fun _ G3 I3 => kWP xs true (d + 79) 0 0 159 0 [(0, 19, 0, 101)] [] G3 I3 (fun r4 G4 I4 => Q r4 G4 I4)) := fun J3 hC hf => by
    refine t_M_flips (hS.1.fr (fun a k hk => hf _ _ (by omega) (by omega))) hi (by omega) (fun J4 hp4 hP4 hf4 => t_M_writhe hP4 ?_)
    exact h G J4 (hS.chg (fun a k n1 n2 n3 => by rw [hf4 _ _ (by omega) (by omega)]; exact hf _ _ (by omega) n3) hp4 (hC.fr (fun a k hk => hf4 _ _ (by omega) (by omega)))) (fun a k hk => by rw [hf4 _ _ (by omega) (by omega)]; exact hf _ _ (by omega) (by omega))
  rw [m1, w32_pc (i := i) (e := e) (by omega) (by omega)]
  refine ⟨fun h40 => ⟨by omega, fun J1 e1 J2 e2 J3 e3 => ?_⟩, fun h40 => ?_⟩
  · have hu40 : u < 40 := by omega
    have g33 : J1 101 33 = (u : Int) := by rw [e1, kst_n (by omega)]; exact m1
    rw [g33, w32_inc (by omega)] at e2
    have g33' : J2 101 33 = ((u + 1 : Nat) : Int) := by rw [e2, kst_s]
    rw [g33'] at e3
    have hcl : chLen u = u + 1 := by unfold chLen; rw [if_pos hu40]
    have hca : chAdd L u ((10 * i + e : Nat) : Int) = L.take u ++ [((10 * i + e : Nat) : Int)] := by unfold chAdd; rw [if_pos hu40]
    have hlen : (L.take u ++ [((10 * i + e : Nat) : Int)]).length = u + 1 := by rw [List.length_append, List.length_take, List.length_singleton]; omega
    refine fin J3 ?_ (fun a k n1 n2 => by rw [e3, kst_n (by omega), e2, kst_n (by omega), e1, kst_n (by omega)])
    rw [hcl, hca]
    refine ⟨by rw [e3, kst_n (by omega)]; exact g33', by rw [e3, kst_s, hlen], by rw [hlen]; omega, by rw [hlen]; omega, fun k hk => ?_⟩
    rw [hlen] at hk
    rw [e3, kst_n (by omega), e2, kst_n (by omega), e1]
    have htl : (L.take u).length = u := by rw [List.length_take]; omega
    by_cases hku : k = u
    · rw [hku, kst_s, getD_app1 htl.symm]
    · rw [kst_n (by omega), m5 k (by omega), getD_app0 (by omega), getD_take (by omega)]
  · have hu40 : u = 40 := by omega
    have hLl : L.length = 40 := by omega
    have hcl : chLen u = 40 := by unfold chLen; rw [if_neg (by omega)]
    have hca : chAdd L u ((10 * i + e : Nat) : Int) = (L.take u).drop 1 ++ [((10 * i + e : Nat) : Int)] := by unfold chAdd; rw [if_neg (by omega)]
    have hdl : ((L.take u).drop 1).length = 39 := by rw [List.length_drop, List.length_take]; omega
    have hlen : ((L.take u).drop 1 ++ [((10 * i + e : Nat) : Int)]).length = 40 := by rw [List.length_append, hdl, List.length_singleton]
    suffices key : ∀ (w j : Nat) (J : KI), j + w = 40 → 1 ≤ j → (∀ a k, a ≠ 121 → J a k = I a k) → (∀ k : Nat, k < 40 → J 121 (k : Int) = if k + 1 < j then L.getD (k + 1) 0 else L.getD k 0) → kWP xs true (d + 80) 0 0 201 40 [(0, 19, 0, 101), (1, 0, 0, (i : Int)), (2, 0, 0, (e : Int)), (3, 0, 0, (j : Int))] [] G J Q from key 39 1 I rfl (Nat.le_refl 1) (fun _ _ _ => rfl) (fun k hk => by rw [if_neg (by omega)]; exact m5 k (by omega))
    intro w
    induction w with
    | zero =>
      intro j J hj _ hf hv
      refine b_M_change_40 ⟨fun _ J1 e1 => ?_, fun hh => by omega⟩
      rw [hf _ _ (by omega), m1, w32_id (by omega) (by omega)] at e1
      have g33 : J1 101 33 = 39 := by rw [e1, kst_s]; omega
      rw [g33, w32_pc (i := i) (e := e) (by omega) (by omega)]
      refine ⟨by omega, fun J2 e2 J3 e3 J4 e4 => ?_⟩
      rw [e2, kst_n (by omega), g33] at e3
      rw [show w32 (39 + 1) = 40 from by decide, ← e2] at e3
      have g33' : J3 101 33 = 40 := by rw [e3, kst_s]
      rw [g33'] at e4
      refine fin J4 ?_ (fun a k n1 n2 => by rw [e4, kst_n (by omega), e3, kst_n (by omega), e2, kst_n (by omega), e1, kst_n (by omega)]; exact hf a k n2)
      rw [hcl, hca]
      refine ⟨by rw [e4, kst_n (by omega)]; exact g33', by rw [e4, kst_s, hlen]; rfl, by rw [hlen]; omega, by rw [hlen]; omega, fun k hk => ?_⟩
      rw [hlen] at hk
      rw [e4, kst_n (by omega), e3, kst_n (by omega), e2]
      by_cases hk39 : k = 39
      · rw [hk39, show ((39 : Nat) : Int) = 39 from rfl, kst_s, getD_app1 hdl.symm]
      · rw [kst_n (by omega), e1, kst_n (by omega), hv k (by omega), if_pos (by omega), getD_app0 (by omega)]
        rw [List.getD_eq_getElem?_getD, List.getD_eq_getElem?_getD, List.getElem?_drop, List.getElem?_take_of_lt (by omega), Nat.add_comm]
    | succ w ih =>
      intro j J hj hj1 hf hv
      refine b_M_change_40 ⟨fun hh => by omega, fun _ => ?_⟩
      rw [w32_id (x := (j : Int) - 1) (by omega) (by omega), w32_inc (by omega), show (j : Int) - 1 = ((j - 1 : Nat) : Int) by omega]
      refine ⟨by omega, by omega, fun J5 e5 => ih (j + 1) J5 (by omega) (by omega) (fun a k hk => by rw [e5, kst_n (by omega)]; exact hf a k hk) (fun k hk => ?_)⟩
      rw [hv j (by omega), if_neg (by omega)] at e5
      rw [e5]
      by_cases hkj : k = j - 1
      · rw [hkj, kst_s, if_pos (by omega), show j - 1 + 1 = j by omega]
      · rw [kst_n (by omega), hv k hk]
        by_cases hk2 : k + 1 < j
        · rw [if_pos hk2, if_pos (show k + 1 < j + 1 by omega)]
        · rw [if_neg hk2, if_neg (show ¬ k + 1 < j + 1 by omega)]
theorem m_undo {xs : KS} : MOk xs 202 [(0, 19, 0, 101)] opUndo := by
  intro d S G I Q hS hI h
  have hC := hS.2.2.2.1
  obtain ⟨m1, m2, m3, m4, m5⟩ := hC
  unfold opUndo at h
  refine b_M_undo_0 ?_
  rw [m1]
  refine ⟨fun h1 J1 e1 => ?_, fun h1 => ?_⟩
  · rw [if_neg (by omega)] at h
    rw [w32_id (by omega) (by omega), show (S.2.2.2.1.2 : Int) - 1 = ((S.2.2.2.1.2 - 1 : Nat) : Int) by omega] at e1
    have g33 : J1 101 33 = ((S.2.2.2.1.2 - 1 : Nat) : Int) := by rw [e1, kst_s]
    have g121 : J1 121 ((S.2.2.2.1.2 - 1 : Nat) : Int) = S.2.2.2.1.1.getD (S.2.2.2.1.2 - 1) 0 := by rw [e1, kst_n (by omega)]; exact m5 _ (by omega)
    rw [g33, g121]
    obtain ⟨i, c, ex, hi, hc⟩ := hI.2.2.2.2.2.2.1 _ (getD_memI (l := S.2.2.2.1.1) (k := S.2.2.2.1.2 - 1) (by omega))
    have h7 := (hI.pic hi).1
    rw [chP_e ex (by omega)] at h
    rw [ex]
    refine ⟨by omega, t_M_flips (hS.1.fr (fun a k hk => by rw [e1, kst_n (by omega)])) hi hc (fun J2 hp2 hP2 hf2 => ?_)⟩
    have g : ∀ a k, ¬ (a = 101 ∧ (k = 5 ∨ k = 33)) → ¬ (102 ≤ a ∧ a ≤ 108) → J2 a k = I a k := fun a k n1 n2 => by rw [hf2 _ _ (by omega) n2, e1, kst_n (by omega)]
    have g2 : J2 101 33 = ((S.2.2.2.1.2 - 1 : Nat) : Int) := by rw [hf2 _ _ (by omega) (by omega)]; exact g33
    rw [g2, show ((S.2.2.2.1.2 - 1 : Nat) : Int) = (S.2.2.2.1.2 : Int) - 1 by omega]
    exact h G J2 (hS.chg (fun a k n1 n2 n3 => g a k (by omega) (by omega)) hp2 ⟨g2, by rw [g _ _ (by omega) (by omega)]; exact m2, by omega, m4, fun k hk => by rw [g _ _ (by omega) (by omega)]; exact m5 k hk⟩) (fun a k hk => g a k (by omega) (by omega))
  · rw [if_pos (by omega)] at h
    exact h G I hS (lof.rf I)
theorem m_redo {xs : KS} : MOk xs 203 [(0, 19, 0, 101)] opRedo := by
  intro d S G I Q hS hI h
  have hC := hS.2.2.2.1
  obtain ⟨m1, m2, m3, m4, m5⟩ := hC
  unfold opRedo at h
  refine b_M_redo_0 ?_
  rw [m1, m2]
  refine ⟨fun h1 => ⟨by omega, ?_⟩, fun h1 => ?_⟩
  · rw [if_neg (by omega)] at h
    rw [m5 _ (by omega)]
    obtain ⟨i, c, ex, hi, hc⟩ := hI.2.2.2.2.2.2.1 _ (getD_memI (l := S.2.2.2.1.1) (k := S.2.2.2.1.2) (by omega))
    have h7 := (hI.pic hi).1
    rw [chP_e ex (by omega)] at h
    rw [ex]
    refine t_M_flips hS.1 hi hc (fun J2 hp2 hP2 hf2 J3 e3 => ?_)
    rw [hf2 _ _ (by omega) (by omega), m1, w32_inc (by omega)] at e3
    have g : ∀ a k, ¬ (a = 101 ∧ (k = 5 ∨ k = 33)) → ¬ (102 ≤ a ∧ a ≤ 108) → J3 a k = I a k := fun a k n1 n2 => by rw [e3, kst_n (by omega), hf2 _ _ (by omega) n2]
    have g33 : J3 101 33 = ((S.2.2.2.1.2 + 1 : Nat) : Int) := by rw [e3, kst_s]
    have g32 : J3 101 32 = (S.2.2.2.1.1.length : Int) := by rw [g _ _ (by omega) (by omega)]; exact m2
    rw [g33, g32, w32_id (by omega) (by omega), show (S.2.2.2.1.1.length : Int) - ((S.2.2.2.1.2 + 1 : Nat) : Int) = (S.2.2.2.1.1.length : Int) - S.2.2.2.1.2 - 1 by omega]
    exact h G J3 (hS.chg (fun a k n1 n2 n3 => g a k (by omega) (by omega)) (hp2.fr (fun a k hk => by rw [e3, kst_n (by omega)])) ⟨g33, g32, by omega, m4, fun k hk => by rw [g _ _ (by omega) (by omega)]; exact m5 k hk⟩) (fun a k hk => g a k (by omega) (by omega))
  · rw [if_pos (by omega)] at h
    exact h G I hS (lof.rf I)
