/-! THE CLASS'S CALLS: the law, shakes, undoing; acts, shelves -/
theorem c_law {xs : KS} : COk xs 105 [(0, 18, 0, 0)] opLaw := by
  intro d S G I Q hS hI h
  have hT := hS.2.1
  have g3 := hS.2.2.1
  unfold opLaw at h
  simp only at h
  refine b_C_law_0 ?_
  rw [hT.1]
  refine t_Law_fault (d := d + 27) (f := fw8 S.2.1) (e := fun k => I 21 k) hT.2.1 hT.2.2 (by omega) (fun k _ _ => rfl) (fun J1 hf1 => ?_)
  rw [wor_e _ e0]
  have hS1 : CRep xs S J1 := by
    obtain ⟨h1, h2, h3, h4, h5, h6, h7⟩ := hS
    exact ⟨h1.fr (fun a k hk => hf1 _ _ (by omega)), h2.fr (fun a k hk => hf1 _ _ (by omega)), h3.fr (hf1 _ _ (by omega)) (fun k => hf1 _ _ (by omega)), h4.fr (fun a k hk => hf1 _ _ (by omega)), h5.fr (fun a k hk => hf1 _ _ (by omega)), h6.fr (fun a k _ _ => hf1 _ _ (by omega)), h7.fr (fun k => hf1 _ _ (by omega))⟩
  have hh1 : hif I J1 := fun a k hk => hf1 _ _ (by omega)
  have nil : ∀ (S' : St) (J J2 : KI), CRep xs S' J → hif I J → J2 = kst J 0 1 0 → CRep xs (S'.1, [], S'.2.2) J2 ∧ hif I J2 := fun S' J J2 hSJ hh e2 =>
    ⟨hSJ.tape (fun a k n1 n2 n3 => by rw [e2, kst_n (by omega)]) (CTp.nil (by rw [e2, kst_s])), fun a k hk => by rw [e2, kst_n (by omega)]; exact hh a k hk⟩
  by_cases hw : (wor (fw8 S.2.1) S.2.1.length e0).2.2 = true
  · rw [if_pos hw] at h ⊢
    refine ⟨fun _ J2 e2 => ⟨fun _ => ?_, fun hh => by omega⟩, fun hh => by omega⟩
    have a := nil S J1 J2 hS1 hh1 e2
    exact h _ J2 a.1 a.2
  · rw [if_neg hw] at h ⊢
    have hT1 := hS1.2.1
    refine ⟨fun hh => absurd rfl hh, fun _ => ?_⟩
    rw [hT1.1]
    refine t_Law_become hT1.2.1 hT1.2.2 (by omega) (fun J3 hC3 hf3 J2 e2 => ⟨fun hh => absurd rfl hh, fun _ => ?_⟩)
    have hS3 : CRep xs (S.1, S.2.1, S.2.1, S.2.2.2) J3 := by
      obtain ⟨h1, h2, h3, h4, h5, h6, h7⟩ := hS1
      exact ⟨h1.fr (fun a k hk => hf3 _ _ (by omega) (by omega)), h2.fr (fun a k hk => hf3 _ _ (by omega) (by omega)), hC3, h4.fr (fun a k hk => hf3 _ _ (by omega) (by omega)), h5.fr (fun a k hk => hf3 _ _ (by omega) (by omega)), h6.fr (fun a k _ _ => hf3 _ _ (by omega) (by omega)), h7.fr (fun k => hf3 _ _ (by omega) (by omega))⟩
    have a := nil (S.1, S.2.1, S.2.1, S.2.2.2) J3 J2 hS3 (fun a k hk => by rw [hf3 _ _ (by omega) (by omega)]; exact hh1 a k hk) e2
    exact h _ J2 a.1 a.2
theorem CRep.shf {xs : KS} {S : St} {I J : KI} (h : CRep xs S I) (hf : shf I J) (hT : CTxt (fw8 S.2.2.1) S.2.2.1.length J) (hK : CKnw xs J) : CRep xs S J := by
  obtain ⟨h1, h2, _, h4, h5, h6, _⟩ := h
  exact ⟨h1.fr (fun a k hk => hf _ _ (by omega)), h2.fr (fun a k hk => hf _ _ (by omega)), hT, h4.fr (fun a k hk => hf _ _ (by omega)), h5.fr (fun a k hk => hf _ _ (by omega)), h6.fr (fun a k _ _ => hf _ _ (by omega)), hK⟩
theorem shf.hi {I J : KI} (h : shf I J) : hif I J := fun a k hk => h a k (by omega)
theorem sm_m {sm : Int} (h : isSm sm = true) : 2 ≤ (kirem sm 10).toNat ∧ (kirem sm 10).toNat ≤ 4 ∧ kirem sm 10 = (((kirem sm 10).toNat : Nat) : Int) := by
  have h := of_decide_eq_true h
  omega
theorem c_shake {xs : KS} {nb sm seed tn : Int} (hn : nb < 2147483648) (ht : tn < 2147483648) (hx : (xs 0).1 = 64) (hO : Owed) : COk xs 106 [(0, 18, 0, 0), (1, 0, 0, nb), (2, 0, 0, sm), (3, 0, 0, seed), (4, 0, 0, tn)] (opShake xs nb sm seed tn) := by
  intro d S G I Q hS hI h
  have no : ∀ r, opShake xs nb sm seed tn S = (r, S) → Q r G I := fun r e => by rw [e] at h; exact h G I hS (hif.rf I)
  have bad : ¬ (0 ≤ nb ∧ nb ≤ 9999 ∧ isSm sm = true ∧ 0 ≤ tn ∧ 1 ≤ tn / 10 ∧ tn / 10 ≤ 50 ∧ tn % 10 ≤ 1) → Q (-1) G I := fun hn => no _ (by unfold opShake; rw [if_neg hn])
  refine b_C_shake_0 ⟨fun h1 => bad (by omega), fun h1 => ⟨fun h2 => bad (by omega), fun h2 => t_C_isStiffAndStrands ⟨fun h3 => bad (fun hh => by rw [hh.2.2.1] at h3; exact absurd h3 (by decide)), fun h3 => ⟨fun h4 => ?_, fun h4 => bad (by omega)⟩⟩⟩⟩
  have hsm := bi1 h3
  have hm := sm_m hsm
  rw [(k10 h4 ht).1, (k10 h4 ht).2, (k100 h1 hn).1, (k100 h1 hn).2]
  refine ⟨by omega, by omega, fun h5 => bad (by omega), fun h5 => ⟨fun h6 => bad (by omega), fun h6 => ⟨fun h7 => ⟨by omega, by omega, ?_⟩, fun h7 => bad (by omega)⟩⟩⟩
  unfold opShake at h
  rw [if_pos ⟨h1, h2, hsm, h4, h5, h6, h7⟩] at h
  simp only at h
  obtain ⟨T, hT⟩ : ∃ T : Nat, T = (tn / 10).toNat := ⟨_, rfl⟩
  rw [← hT] at h
  rw [show tn / 10 = (T : Int) by omega]
  refine t_Shaker_shakeAll (d := d + 26) hx hO.2.1 hS.2.2.1 hS.2.2.2.2.2.2 hm.2.2 hm.1 hm.2.1 (by omega) (fun G' J a b c e g => ?_)
  have h := h G' J (hS.shf c a b) c.hi
  unfold shkS at h
  rw [e, g]
  refine ⟨fun w => ?_, fun w => ?_⟩
  · rw [if_neg w] at h; exact h
  · rw [if_pos w] at h; exact h
theorem c_least {xs : KS} {box sm seed v : Int} (hx : (xs 0).1 = 64) (hO : Owed) : COk xs 107 [(0, 18, 0, 0), (1, 0, 0, box), (2, 0, 0, sm), (3, 0, 0, seed), (4, 0, 0, v)] (opLeast xs box sm seed v) := by
  intro d S G I Q hS hI h
  have no : ∀ r, opLeast xs box sm seed v S = (r, S) → Q r G I := fun r e => by rw [e] at h; exact h G I hS (hif.rf I)
  have bad : ¬ (0 ≤ box ∧ box ≤ 99 ∧ isSm sm = true ∧ 1 ≤ v ∧ v ≤ 20) → Q (-1) G I := fun hn => no _ (by unfold opLeast; rw [if_neg hn])
  refine b_C_least_0 ⟨fun h1 => bad (by omega), fun h1 => ⟨fun h2 => bad (by omega), fun h2 => t_C_isStiffAndStrands ⟨fun h3 => bad (fun hh => by rw [hh.2.2.1] at h3; exact absurd h3 (by decide)), fun h3 => ⟨fun h4 => bad (by omega), fun h4 => ⟨fun h5 => ?_, fun h5 => bad (by omega)⟩⟩⟩⟩⟩
  have hsm := bi1 h3
  have hm := sm_m hsm
  unfold opLeast at h
  rw [if_pos ⟨h1, h2, hsm, h4, h5⟩] at h
  unfold lstL at h
  suffices key : ∀ (u l : Nat) (G : KG) (J : KI), l + u = 100 → (∀ i, i < l → decide (v ≤ ((shkS xs S.2.2.1 (i : Int) box sm seed 20).1 : Int)) = false) → CRep xs S J → hif I J → kWP xs true (d + 80) 0 0 107 35 [(0, 18, 0, 0), (1, 0, 0, box), (2, 0, 0, sm), (3, 0, 0, seed), (4, 0, 0, v), (5, 0, 0, (l : Int))] [] G J Q from key 100 0 G I rfl (fun i hi => absurd hi (Nat.not_lt_zero i)) hS (hif.rf I)
  intro u
  induction u with
  | zero =>
    intro l G J hl hno hS hh
    have h := h G J hS hh
    rw [if_neg (by rw [fnd_none (n := 100) (fun i hi => hno i (by omega))]; omega)] at h
    exact b_C_least_35 ⟨fun _ => h, fun h6 => by omega⟩
  | succ u ih =>
    intro l G J hl hno hS hh
    refine b_C_least_35 ⟨fun h6 => by omega, fun _ => t_Shaker_shakeAll (d := d + 26) (T := 20) hx hO.2.1 hS.2.2.1 hS.2.2.2.2.2.2 hm.2.2 hm.1 hm.2.1 (by omega) (fun G' J1 a b c e g => ?_)⟩
    have hS1 := hS.shf c a b
    have hh1 : hif I J1 := fun a k hk => by rw [c.hi a k hk]; exact hh a k hk
    rw [e]
    refine ⟨fun h6 => ?_, fun h6 => ?_⟩
    · rw [w32_inc (by omega)]
      exact ih (l + 1) G' J1 (by omega) (all_step (p := fun i => decide (v ≤ ((shkS xs S.2.2.1 (i : Int) box sm seed 20).1 : Int)) = false) hno (decide_eq_false (by unfold shkS; omega))) hS1 hh1
    · have ef := fnd_eq (f := fun i : Nat => decide (v ≤ ((shkS xs S.2.2.1 (i : Int) box sm seed 20).1 : Int))) (n := 100) (k := l) (by omega) (decide_eq_true h6) hno
      have h := h G' J1 hS1 hh1
      rw [ef, if_pos (by omega)] at h
      exact h
theorem chP_e {ps : List Pic} {x : Int} {i c : Nat} (e : x = ((10 * i + c : Nat) : Int)) (hc : c < 10) : chP ps x = ps.set i (chg (pget ps i) c) := by
  unfold chP pg
  rw [show (x / 10).toNat = i by omega, show (x % 10).toNat = c by omega]
theorem getD_memI {l : List Int} {k : Nat} (h : k < l.length) : l.getD k 0 ∈ l := by
  rw [List.getD_eq_getElem?_getD, List.getElem?_eq_getElem h]
  exact List.getElem_mem h
theorem c_undo {xs : KS} : COk xs 108 [(0, 18, 0, 0)] opUndo := by
  intro d S G I Q hS hI h
  have hC := hS.2.2.2.1
  unfold opUndo at h
  refine b_C_undo_0 ?_
  rw [hC.1]
  refine ⟨fun h1 => t_Changes_takeBack hC (fun h2 => by omega) (fun J1 hu hC1 hf1 => ?_), fun h1 => ?_⟩
  · rw [if_neg (by omega)] at h
    obtain ⟨i, c, ex, hi, hc⟩ := hI.2.2.2.2.2.2.1 _ (getD_memI (l := S.2.2.2.1.1) (k := S.2.2.2.1.2 - 1) (by have := hC.2.2.1; omega))
    have h7 := (hI.pic hi).1
    rw [chP_e ex (by omega)] at h
    rw [ex]
    refine t_C_changeAgain (hS.1.kfr hf1 (by omega) (by omega)) hi hc (fun J2 hp2 hf2 => ?_)
    have hC2 := hC1.fr (fun a k hk => hf2 a k (by omega))
    rw [hC2.1, show ((S.2.2.2.1.2 - 1 : Nat) : Int) = (S.2.2.2.1.2 : Int) - 1 by omega]
    exact h G J2 (hS.chg (fun a k n1 n2 n3 => by rw [hf2 _ _ n2, hf1 _ _ (by omega)]) hp2 hC2) (fun a k hk => by rw [hf2 _ _ (by omega), hf1 _ _ (by omega)])
  · rw [if_pos (by omega)] at h
    exact h G I hS (hif.rf I)
theorem c_redo {xs : KS} : COk xs 109 [(0, 18, 0, 0)] opRedo := by
  intro d S G I Q hS hI h
  have hC := hS.2.2.2.1
  unfold opRedo at h
  have hle := hC.2.2.1
  refine b_C_redo_0 ?_
  rw [hC.2.1]
  refine ⟨fun h1 => t_Changes_takeUp hC (fun h2 => by omega) (fun J1 hu hC1 hf1 => ?_), fun h1 => ?_⟩
  · rw [if_neg (by omega)] at h
    obtain ⟨i, c, ex, hi, hc⟩ := hI.2.2.2.2.2.2.1 _ (getD_memI (l := S.2.2.2.1.1) (k := S.2.2.2.1.2) (by omega))
    have h7 := (hI.pic hi).1
    rw [chP_e ex (by omega)] at h
    rw [ex]
    refine t_C_changeAgain (hS.1.kfr hf1 (by omega) (by omega)) hi hc (fun J2 hp2 hf2 => ?_)
    have hC2 := hC1.fr (fun a k hk => hf2 a k (by omega))
    rw [hC2.2.1, show ((S.2.2.2.1.1.length - (S.2.2.2.1.2 + 1) : Nat) : Int) = (S.2.2.2.1.1.length : Int) - S.2.2.2.1.2 - 1 by omega]
    exact h G J2 (hS.chg (fun a k n1 n2 n3 => by rw [hf2 _ _ n2, hf1 _ _ (by omega)]) hp2 hC2) (fun a k hk => by rw [hf2 _ _ (by omega), hf1 _ _ (by omega)])
  · rw [if_pos (by omega)] at h
    exact h G I hS (hif.rf I)
theorem CRep.lies {xs : KS} {S : St} {K tr : List Int} {I J : KI} (h : CRep xs S I) (hf : kfr 37 40 I J) (hL : CLie K tr J) : CRep xs (S.1, S.2.1, S.2.2.1, S.2.2.2.1, (K, tr), S.2.2.2.2.2) J := by
  obtain ⟨h1, h2, h3, h4, _, h6, h7⟩ := h
  exact ⟨h1.fr (fun a k hk => hf _ _ (by omega)), h2.fr (fun a k hk => hf _ _ (by omega)), h3.fr (hf _ _ (by omega)) (fun k => hf _ _ (by omega)), h4.fr (fun a k hk => hf _ _ (by omega)), hL, h6.fr (fun a k _ _ => hf _ _ (by omega)), h7.fr (fun k => hf _ _ (by omega))⟩
theorem c_body {xs : KS} {k : Int} : COk xs 110 [(0, 18, 0, 0), (1, 0, 0, k)] (opBody k) := by
  intro d S G I Q hS hI h
  have hL := hS.2.2.2.2.1
  unfold opBody at h
  refine b_C_body_0 (t_C_isKind ⟨fun h1 => ?_, fun h1 => ?_⟩)
  · rw [if_pos (of_decide_eq_true (bi1 h1))] at h
    rw [hL.1]
    refine ⟨fun h2 => t_Lies_keepOne hL (fun J hJ hf => ?_), fun h2 => ?_⟩
    · have h5 : S.2.2.2.2.1.1.length < 50 := by omega
      rw [if_pos h5] at h ⊢
      unfold keepK at hJ
      rw [if_pos h5] at hJ
      exact h G J (hS.lies (hf.w (by omega) (by omega)) hJ) (fun a k hk => hf _ _ (by omega))
    · rw [if_neg (by omega)] at h
      exact h G I hS (hif.rf I)
  · rw [if_neg (of_decide_eq_false (bi0 h1))] at h
    exact h G I hS (hif.rf I)
theorem c_act {xs : KS} {b act x : Int} (hX : XLie xs) : COk xs 111 [(0, 18, 0, 0), (1, 0, 0, b), (2, 0, 0, act), (3, 0, 0, x)] (opAct b act x) := by
  intro d S G I Q hS hI h
  refine b_C_act_0 (t_Lies_begin (d := d + 64) hX hS.2.2.2.2.1 hI.2.2.2.2.2.2.2.2.2.1 (fun J hJ hf => ?_))
  exact h G J (hS.lies hf hJ) (fun a k hk => hf _ _ (by omega))
theorem c_trace {xs : KS} {i : Int} : COk xs 112 [(0, 18, 0, 0), (1, 0, 0, i)] (opTrace i) := by
  intro d S G I Q hS hI h
  have no : ∀ r, opTrace i S = (r, S) → Q r G I := fun r e => by rw [e] at h; exact h G I hS (hif.rf I)
  have hL := hS.2.2.2.2.1
  unfold opTrace at no
  refine b_C_trace_0 ⟨fun h1 => no _ (by rw [if_neg (by omega)]), fun h1 => t_Lies_traced hL ⟨fun h2 => ⟨by omega, ?_⟩, fun h2 => no _ (by rw [if_neg (by omega)])⟩⟩
  obtain ⟨j, rfl⟩ : ∃ j : Nat, i = j := ⟨i.toNat, by omega⟩
  rw [hL.2.2.2.2 j (by omega) (by omega)]
  exact no _ (by rw [if_pos (by omega)]; rfl)
theorem CRep.shs {xs : KS} {S : St} {sh : List Shf} {I J : KI} (h : CRep xs S I) (hf : ∀ a k, ¬ (89 ≤ a ∧ a < 101) → J a k = I a k) (hs : CShs sh J) : CRep xs (S.1, S.2.1, S.2.2.1, S.2.2.2.1, S.2.2.2.2.1, sh) J := by
  obtain ⟨h1, h2, h3, h4, h5, _, h7⟩ := h
  exact ⟨h1.fr (fun a k hk => hf _ _ (by omega)), h2.fr (fun a k hk => hf _ _ (by omega)), h3.fr (hf _ _ (by omega)) (fun k => hf _ _ (by omega)), h4.fr (fun a k hk => hf _ _ (by omega)), h5.fr (fun a k hk => hf _ _ (by omega)), hs, h7.fr (fun k => hf _ _ (by omega))⟩
theorem set_c {xs : KS} {S : St} {v : Int} {x : Shf} {I J : KI} (hS : CRep xs S I) (h0 : 0 ≤ v) (h6 : v < 6) (hx : CShf (40 + (49 + 2 * v)) x J) (hf : kfr (40 + (49 + 2 * v)) (40 + (49 + 2 * v) + 2) I J) : CRep xs (setSh S v x) J ∧ hif I J :=
  ⟨hS.shs (fun a k n => hf _ _ (by omega)) (hS.2.2.2.2.2.1.upd h0 h6 hx hf), fun a k hk => hf _ _ (by omega)⟩
theorem c_keep {xs : KS} {v b : Int} : COk xs 113 [(0, 18, 0, 0), (1, 0, 0, v), (2, 0, 0, b)] (opKeep v b) := by
  intro d S G I Q hS hI h
  have no : ∀ r, opKeep v b S = (r, S) → Q r G I := fun r e => by rw [e] at h; exact h G I hS (hif.rf I)
  have bad : ¬ (0 ≤ v ∧ v < 6 ∧ -1 ≤ b ∧ b < S.2.2.2.2.1.1.length) → Q (-1) G I := fun hn => no _ (by unfold opKeep; rw [if_neg hn])
  refine b_C_keep_0 (t_C_isShelf ⟨fun h1 => bad (fun hh => of_decide_eq_false (bi0 h1) ⟨hh.1, hh.2.1⟩), fun h1 => ⟨fun h2 => bad (by omega), fun h2 => ?_⟩⟩)
  have hv : 0 ≤ v ∧ v < 6 := of_decide_eq_true (bi1 h1)
  rw [hS.2.2.2.2.1.1]
  refine ⟨fun h3 => ⟨hv, t_Shelf_holdLie (fun J hJ hf => ?_)⟩, fun h3 => bad (by omega)⟩
  have a := set_c hS hv.1 hv.2 hJ hf
  unfold opKeep at h
  rw [if_pos ⟨hv.1, hv.2, h2, h3⟩] at h
  exact h G J a.1 a.2
theorem c_row {xs : KS} {v s n : Int} : COk xs 114 [(0, 18, 0, 0), (1, 0, 0, v), (2, 0, 0, s), (3, 0, 0, n)] (opRow v s n) := by
  intro d S G I Q hS hI h
  have no : ∀ r, opRow v s n S = (r, S) → Q r G I := fun r e => by rw [e] at h; exact h G I hS (hif.rf I)
  have bad : ¬ (0 ≤ v ∧ v < 6 ∧ 0 ≤ s ∧ s ≤ 4 ∧ n ≤ 60) → Q (-1) G I := fun hn => no _ (by unfold opRow; rw [if_neg hn])
  refine b_C_row_0 (t_C_isShelf ⟨fun h1 => bad (fun hh => of_decide_eq_false (bi0 h1) ⟨hh.1, hh.2.1⟩), fun h1 => ⟨fun h2 => bad (by omega), fun h2 => ⟨fun h3 => bad (by omega), fun h3 => ⟨fun h4 => ⟨fun h5 => ?_, fun h5 => ?_⟩, fun h4 => bad (by omega)⟩⟩⟩⟩)
  · have hv : 0 ≤ v ∧ v < 6 := of_decide_eq_true (bi1 h1)
    obtain ⟨t, rfl⟩ : ∃ t : Nat, s = t := ⟨s.toNat, by omega⟩
    obtain ⟨N, rfl⟩ : ∃ N : Nat, n = N := ⟨n.toNat, by omega⟩
    refine ⟨hv, t_Shelf_holdRow (fun J hJ hf => ?_)⟩
    have a := set_c hS hv.1 hv.2 hJ hf
    unfold opRow at h
    rw [if_pos ⟨hv.1, hv.2, h2, h3, h4⟩, if_neg (by omega)] at h
    exact h G J a.1 a.2
  · have hv : 0 ≤ v ∧ v < 6 := of_decide_eq_true (bi1 h1)
    exact no _ (by unfold opRow; rw [if_pos ⟨hv.1, hv.2, h2, h3, h4⟩, if_pos h5])
/-- an element that is there -/
theorem shR_0 {sh : List Shf} {v i : Int} (h : shR sh v i = 0) : 0 ≤ v ∧ v < 6 ∧ ∃ s l, sget sh v = some (.inr (s, l)) ∧ 0 ≤ i ∧ i < (l.length : Int) := by
  unfold shR at h
  split at h
  · rename_i hv
    split at h
    · omega
    · omega
    · rename_i s l hg
      split at h
      · rename_i hi
        exact ⟨hv.1, hv.2, s, l, hg, hi.1, hi.2⟩
      · omega
  · omega
theorem c_put {xs : KS} {v i x : Int} : COk xs 115 [(0, 18, 0, 0), (1, 0, 0, v), (2, 0, 0, i), (3, 1, 0, x)] (opPut v i x) := by
  intro d S G I Q hS hI h
  refine b_C_put_0 (t_C_refusalOfElement hS.2.2.2.2.2.1 ⟨fun h1 => ?_, fun h1 => ?_⟩)
  · obtain ⟨v0, v6, s, l, hg, i0, il⟩ := shR_0 h1
    have hs := hS.2.2.2.2.2.1.at v0 v6
    rw [hg] at hs
    obtain ⟨j, rfl⟩ : ∃ j : Nat, i = j := ⟨i.toNat, by omega⟩
    refine ⟨⟨v0, v6⟩, t_Shelf_putIn hs (by omega) (fun J hJ hf => ?_)⟩
    have a := set_c hS v0 v6 hJ hf
    unfold opPut at h
    rw [if_pos h1, hg] at h
    exact h G J a.1 a.2
  · unfold opPut at h
    rw [if_neg h1] at h
    exact h G I hS (hif.rf I)
theorem c_element {xs : KS} {v i : Int} : COk xs 116 [(0, 18, 0, 0), (1, 0, 0, v), (2, 0, 0, i)] (opElement v i) := by
  intro d S G I Q hS hI h
  unfold opElement at h
  refine b_C_element_0 (t_C_refusalOfElement hS.2.2.2.2.2.1 ⟨fun h1 => ?_, fun h1 => ?_⟩)
  · obtain ⟨v0, v6, s, l, hg, i0, il⟩ := shR_0 h1
    have hs := hS.2.2.2.2.2.1.at v0 v6
    rw [hg] at hs
    have hl60 : l.length ≤ 60 := hs.2.2.2.1
    obtain ⟨j, rfl⟩ : ∃ j : Nat, i = j := ⟨i.toNat, by omega⟩
    refine ⟨⟨v0, v6⟩, by omega, ?_⟩
    rw [hs.2.2.2.2 j (by omega)]
    rw [if_pos h1, hg] at h
    exact h G I hS (hif.rf I)
  · rw [if_neg h1] at h
    exact h G I hS (hif.rf I)
theorem c_taken {xs : KS} {v k : Int} (hA : Abv xs) : COk xs 118 [(0, 18, 0, 0), (1, 0, 0, v), (2, 0, 0, k)] (opTaken xs v k) := by
  intro d S G I Q hS hI h
  have no : ∀ r, opTaken xs v k S = (r, S) → Q r G I := fun r e => by rw [e] at h; exact h G I hS (hif.rf I)
  unfold opTaken at no
  refine b_C_taken_0 (t_C_isShelf ⟨fun h1 => no _ (by rw [if_pos (fun hh => of_decide_eq_false (bi0 h1) ⟨hh.1, hh.2.1⟩)]), fun h1 => t_C_isKind ⟨fun h2 => ?_, fun h2 => no _ (by rw [if_pos (fun hh => of_decide_eq_false (bi0 h2) ⟨hh.2.2.1, hh.2.2.2⟩)])⟩⟩)
  have hv : 0 ≤ v ∧ v < 6 := of_decide_eq_true (bi1 h1)
  have hk : 0 ≤ k ∧ k < 8 := of_decide_eq_true (bi1 h2)
  rw [if_neg (fun hh => hh ⟨hv.1, hv.2, hk.1, hk.2⟩)] at no
  have hs := hS.2.2.2.2.2.1.at hv.1 hv.2
  refine ⟨hv, ?_⟩
  cases hg : sget S.2.2.2.2.2 v with
  | none =>
    rw [hg] at hs no
    rw [show I (40 + (49 + 2 * v)) 1 = 0 from hs]
    exact ⟨fun hh => absurd rfl hh, fun _ => no _ rfl⟩
  | some z =>
    cases z with
    | inl b =>
      rw [hg] at hs no
      rw [hs.1, hs.2]
      have hb : b < S.2.2.2.2.1.1.length := hI.2.2.2.2.2.2.2.2.2.2.2.2.1 v.toNat b hg
      have hK := hI.2.2.2.2.2.2.2.2.2.1 b hb
      have e : kindK S.2.2.2.2.1.1 (b : Int) = S.2.2.2.2.1.1.getD b 0 := by unfold kindK; rw [if_pos (by omega)]; rfl
      refine ⟨fun _ => ⟨fun _ => t_Lies_kindOf hS.2.2.2.2.1 (t_Lies_isUnder hA (by rw [e]; exact hK.2) ?_), fun hh => absurd rfl hh⟩, fun hh => absurd hh (by decide)⟩
      simp only at no
      cases hu : undr xs k 8 (kindK S.2.2.2.2.1.1 (b : Int)) with
      | false => exact ⟨fun _ => no _ (by rw [if_neg (by rw [hu]; simp)]), fun hh => absurd rfl hh⟩
      | true => exact ⟨fun hh => absurd hh (by decide), fun _ => no _ (by rw [if_pos hu])⟩
    | inr q =>
      rw [hg] at hs no
      rw [hs.1]
      exact ⟨fun _ => ⟨fun hh => absurd hh (by decide), fun _ => no _ rfl⟩, fun hh => absurd hh (by decide)⟩
theorem c_count {xs : KS} {w : Int} : COk xs 119 [(0, 18, 0, 0), (1, 0, 0, w)] (opCount w) := by
  intro d S G I Q hS hI h
  have no : ∀ r, opCount w S = (r, S) → Q r G I := fun r e => by rw [e] at h; exact h G I hS (hif.rf I)
  unfold opCount at no
  refine b_C_count_0 ?_
  rw [hS.1.1, hS.2.1.1, hS.2.2.2.1.1, hS.2.2.2.2.1.1, hS.2.2.2.2.1.2.2.2.1]
  refine ⟨fun h1 => no _ ?_, fun h1 => no _ ?_, fun h1 => no _ ?_, fun h1 => no _ ?_, fun h1 => no _ ?_, fun h1 => no _ ?_, fun h1 => no _ ?_, trivial⟩
  · rw [if_neg (by omega), if_neg (by omega), if_neg (by omega), if_neg (by omega), if_neg (by omega)]
  · rw [if_neg (by omega), if_neg (by omega), if_neg (by omega), if_neg (by omega), if_neg (by omega)]
  · rw [if_pos h1]
  · rw [if_neg (by omega), if_pos h1]
  · rw [if_neg (by omega), if_neg (by omega), if_pos h1]
  · rw [if_neg (by omega), if_neg (by omega), if_neg (by omega), if_pos h1]
  · rw [if_neg (by omega), if_neg (by omega), if_neg (by omega), if_neg (by omega), if_pos h1]
