/-! THE CLASS'S CALLS: pictures out of pictures; changes, moves -/
theorem c_mirror {xs : KS} {p : Int} : COk xs 94 [(0, 18, 0, 0), (1, 0, 0, p)] (opMirror p) := by
  intro d S G I Q hS hI h
  unfold opMirror at h
  refine b_C_mirror_0 (t_C_isPicture hS.1 ⟨fun h1 => ?_, fun h1 => ?_⟩)
  · have hp : 0 ≤ p ∧ p < S.1.length := of_decide_eq_true (bi1 h1)
    rw [if_pos hp] at h
    rw [hS.1.1]
    have h12 := hS.1.2.1
    refine ⟨fun h2 => ⟨by omega, ?_⟩, fun h2 => ?_⟩
    · rw [if_neg (by omega)] at h
      obtain ⟨i, rfl⟩ : ∃ i : Nat, p = i := ⟨p.toNat, by omega⟩
      exact t_Picture_beMirrorOf (p := 3) (hS.1.2.2 i (by omega)).1 (by omega) (fun J hJ hf _ => add_c (hS.sf (hf.sf (by omega) (by omega)) (hS.1.kfr hf (by omega) (by omega))) (by omega) hJ (hf.sf (by omega) (by omega)).hi h)
    · rw [if_pos (by omega)] at h
      exact h G I hS (hif.rf I)
  · rw [if_neg (of_decide_eq_false (bi0 h1))] at h
    exact h G I hS (hif.rf I)
theorem c_turn {xs : KS} {p : Int} : COk xs 95 [(0, 18, 0, 0), (1, 0, 0, p)] (opTurn p) := by
  intro d S G I Q hS hI h
  unfold opTurn at h
  refine b_C_turn_0 (t_C_isPicture hS.1 ⟨fun h1 => ?_, fun h1 => ?_⟩)
  · have hp : 0 ≤ p ∧ p < S.1.length := of_decide_eq_true (bi1 h1)
    rw [if_pos hp] at h
    rw [hS.1.1]
    have h12 := hS.1.2.1
    refine ⟨fun h2 => ⟨by omega, ?_⟩, fun h2 => ?_⟩
    · rw [if_neg (by omega)] at h
      obtain ⟨i, rfl⟩ : ∃ i : Nat, p = i := ⟨p.toNat, by omega⟩
      exact t_Picture_beTurned (p := 3) (hS.1.2.2 i (by omega)).1 (by omega) (fun J hJ hf _ => add_c (hS.sf (hf.sf (by omega) (by omega)) (hS.1.kfr hf (by omega) (by omega))) (by omega) hJ (hf.sf (by omega) (by omega)).hi h)
    · rw [if_pos (by omega)] at h
      exact h G I hS (hif.rf I)
  · rw [if_neg (of_decide_eq_false (bi0 h1))] at h
    exact h G I hS (hif.rf I)
theorem c_join {xs : KS} {pq : Int} (hq : pq < 2147483648) : COk xs 96 [(0, 18, 0, 0), (1, 0, 0, pq)] (opJoin pq) := by
  intro d S G I Q hS hI h
  unfold opJoin at h
  refine b_C_join_0 (t_C_arePictures hq hS.1 ⟨fun h1 => ?_, fun h1 => ?_⟩)
  · have hp := of_decide_eq_true (bi1 h1)
    have h12 := hS.1.2.1
    rw [if_pos hp] at h
    rw [hS.1.1, (k100 hp.1 hq).1, (k100 hp.1 hq).2]
    have e1 : pg S.1 (pq / 100) = pget S.1 (pq / 100).toNat := rfl
    have e2 : pg S.1 (pq % 100) = pget S.1 (pq % 100).toNat := rfl
    rw [e1, e2] at h
    obtain ⟨i, hi⟩ : ∃ i : Nat, i = (pq / 100).toNat := ⟨_, rfl⟩
    obtain ⟨j, hj⟩ : ∃ j : Nat, j = (pq % 100).toNat := ⟨_, rfl⟩
    rw [← hi, ← hj] at h
    rw [show pq / 100 = (i : Int) by omega, show pq % 100 = (j : Int) by omega]
    have hPi := (hS.1.2.2 i (by omega)).1
    have hPj := (hS.1.2.2 j (by omega)).1
    have oi := hI.pic (i := i) (by omega)
    have oj := hI.pic (i := j) (by omega)
    have li := oi.len
    have lj := oj.len
    have ni := oi.1
    have nj := oj.1
    refine ⟨fun h2 => ⟨by omega, by omega, by omega, by omega, ?_⟩, fun h2 => ?_⟩
    · rw [if_neg (by omega)] at h
      rw [hPi.2.2.1, hPj.2.2.1, w32_id (by omega) (by omega)]
      refine ⟨fun h3 => ?_, fun h3 => ?_⟩
      · rw [if_neg (by omega)] at h
        exact t_Picture_beJoined (p := 3) hPi hPj (by omega) (by omega) (fun k hk => oi.lt hk) (fun k hk => oj.lt hk) (by omega) (by omega) (fun J hJ hf _ => add_c (hS.sf (hf.sf (by omega) (by omega)) (hS.1.kfr hf (by omega) (by omega))) (by omega) hJ (hf.sf (by omega) (by omega)).hi h)
      · rw [if_pos (by omega)] at h
        exact h G I hS (hif.rf I)
    · rw [if_pos (by omega)] at h
      exact h G I hS (hif.rf I)
  · rw [if_neg (of_decide_eq_false (bi0 h1))] at h
    exact h G I hS (hif.rf I)
theorem CRep.chg {xs : KS} {S : St} {ps : List Pic} {L : List Int} {u : Nat} {I J : KI} (h : CRep xs S I) (hf : ∀ a k, ¬ (3 ≤ a ∧ a < 20) → ¬ (41 ≤ a ∧ a < 89) → ¬ (a = 35 ∨ a = 36) → J a k = I a k) (hp : CPs xs ps J) (hC : CChg L u J) : CRep xs (ps, S.2.1, S.2.2.1, (L, u), S.2.2.2.2) J := by
  obtain ⟨_, h2, h3, _, h5, h6, h7⟩ := h
  exact ⟨hp, h2.fr (fun a k hk => hf _ _ (by omega) (by omega) (by omega)), h3.fr (hf _ _ (by omega) (by omega) (by omega)) (fun k => hf _ _ (by omega) (by omega) (by omega)), hC, h5.fr (fun a k hk => hf _ _ (by omega) (by omega) (by omega)), h6.fr (fun a k h8 h9 => hf _ _ (by omega) (by omega) (by omega)), h7.fr (fun k => hf _ _ (by omega) (by omega) (by omega))⟩
theorem c_change {xs : KS} {p c : Int} : COk xs 97 [(0, 18, 0, 0), (1, 0, 0, p), (2, 0, 0, c)] (opChange p c) := by
  intro d S G I Q hS hI h
  have no : ∀ r, opChange p c S = (r, S) → Q r G I := fun r e => by rw [e] at h; exact h G I hS (hif.rf I)
  refine b_C_change_0 (t_C_isPicture hS.1 ⟨fun h1 => ?_, fun h1 => no _ (by unfold opChange; rw [if_neg (fun hh => of_decide_eq_false (bi0 h1) ⟨hh.1, hh.2.1⟩)])⟩)
  have hp : 0 ≤ p ∧ p < S.1.length := of_decide_eq_true (bi1 h1)
  have h12 := hS.1.2.1
  obtain ⟨i, rfl⟩ : ∃ i : Nat, p = i := ⟨p.toNat, by omega⟩
  have hi : i < S.1.length := by omega
  have hP := (hS.1.2.2 i hi).1
  have h7 := hP.1
  have epg : pg S.1 (i : Int) = pget S.1 i := rfl
  unfold opChange at no h
  rw [epg] at no h
  rw [hP.2.2.1]
  refine ⟨by omega, fun h2 => no _ (by rw [if_neg (by omega)]), fun h2 => ⟨fun h3 => ?_, fun h3 => no _ (by rw [if_neg (by omega)])⟩⟩
  obtain ⟨e, rfl⟩ : ∃ e : Nat, c = e := ⟨c.toNat, by omega⟩
  rw [if_pos ⟨hp.1, hp.2, h2, h3⟩] at h
  simp only [Int.toNat_natCast] at h
  refine t_Picture_changeAt hP (by omega) (fun J1 hP1 hf1 h31 => ?_)
  have hC := hS.2.2.2.1
  refine t_Changes_add (hC.fr (fun a k hk => hf1 a k (by omega))) (by rw [w32_id (x := 10 * (i : Int)) (by omega) (by omega), w32_id (by omega) (by omega)]) (fun J2 hC2 hf2 => ?_)
  have hP2 := hP1.fr hf2 (by omega)
  refine t_Picture_writhe hP2 (h G J2 (hS.chg (fun a k n1 n2 n3 => by rw [hf2 _ _ (by omega)]; exact hf1 _ _ (by omega)) ?_ hC2) (fun a k hk => by rw [hf2 _ _ (by omega)]; exact hf1 _ _ (by omega)))
  refine hS.1.upd hi (fun a k n1 n2 n3 => by rw [hf2 _ _ (by omega)]; exact hf1 _ _ (by omega)) hP2 (by rw [hf2 _ _ (by omega)]; exact h31)
theorem c_pulls {xs : KS} {p what : Int} (hx : (xs 0).1 = 64) (hO : Owed) : COk xs 98 [(0, 18, 0, 0), (1, 0, 0, p), (2, 0, 0, what)] (opPulls xs p what) := by
  intro d S G I Q hS hI h
  have no : ∀ r, opPulls xs p what S = (r, S) → Q r G I := fun r e => by rw [e] at h; exact h G I hS (hif.rf I)
  refine b_C_pulls_0 (t_C_isPicture hS.1 ⟨fun h1 => no _ (by unfold opPulls; rw [if_neg (fun hh => of_decide_eq_false (bi0 h1) ⟨hh.1, hh.2.1⟩)]), fun h1 => ⟨fun h2 => no _ (by unfold opPulls; rw [if_neg (by omega)]), fun h2 => ⟨fun h3 => ?_, fun h3 => no _ (by unfold opPulls; rw [if_neg (by omega)])⟩⟩⟩)
  have hp : 0 ≤ p ∧ p < S.1.length := of_decide_eq_true (bi1 h1)
  have h12 := hS.1.2.1
  obtain ⟨i, rfl⟩ : ∃ i : Nat, p = i := ⟨p.toNat, by omega⟩
  have hi : i < S.1.length := by omega
  have hP := (hS.1.2.2 i hi).1
  unfold opPulls at h
  rw [if_pos ⟨hp.1, hp.2, h2, h3⟩, show pg S.1 (i : Int) = pget S.1 i from rfl] at h
  simp only at h
  have hb := fwc_lt (xs := xs) (P := pget S.1 i) (2 ^ (pget S.1 i).2.length) (Nat.le_refl _)
  have h128 := pw7 hP.1
  refine ⟨by omega, t_C_fewestChanges hx hP (by omega) (hI.rg hO i hi) (fun J hf => ?_)⟩
  have h := h G J (hS.sf (hf.sf (by omega) (by omega)) (hS.1.kfr hf (by omega) (by omega))) (hf.sf (by omega) (by omega)).hi
  refine ⟨fun w => ?_, fun w => t_bitCount (by omega) ?_⟩
  · rw [if_neg w] at h; exact h
  · rw [if_pos w] at h; exact h
theorem c_moves {xs : KS} {p what : Int} : COk xs 99 [(0, 18, 0, 0), (1, 0, 0, p), (2, 0, 0, what)] (opMoves p what) := by
  intro d S G I Q hS hI h
  have no : ∀ r, opMoves p what S = (r, S) → Q r G I := fun r e => by rw [e] at h; exact h G I hS (hif.rf I)
  refine b_C_moves_0 (t_C_isPicture hS.1 ⟨fun h1 => no _ (by unfold opMoves; rw [if_neg (fun hh => of_decide_eq_false (bi0 h1) ⟨hh.1, hh.2.1⟩)]), fun h1 => ⟨fun h2 => no _ (by unfold opMoves; rw [if_neg (by omega)]), fun h2 => ⟨fun h3 => ?_, fun h3 => no _ (by unfold opMoves; rw [if_neg (by omega)])⟩⟩⟩)
  have hp : 0 ≤ p ∧ p < S.1.length := of_decide_eq_true (bi1 h1)
  have h12 := hS.1.2.1
  obtain ⟨i, rfl⟩ : ∃ i : Nat, p = i := ⟨p.toNat, by omega⟩
  have hi : i < S.1.length := by omega
  have hP := (hS.1.2.2 i hi).1
  have hok := hI.pic hi
  have hg := hok.g128
  unfold opMoves at no
  rw [if_pos ⟨hp.1, hp.2, h2, h3⟩, show pg S.1 (i : Int) = pget S.1 i from rfl] at no
  simp only at no
  refine ⟨by omega, t_Picture_goneByMove hP hok.pwh ⟨fun w => ⟨fun g0 => t_C_crossingsAsDigits hg (no _ ?_), fun g0 => no _ ?_⟩, fun w => t_bitCount hg (no _ ?_)⟩⟩
  · rw [if_neg w, if_neg (by omega)]
  · rw [if_neg w, if_pos (by omega)]
  · rw [if_pos w]
theorem smp_ok (hO : Owed) : ∀ P, PicOk P → pwh P ∧ gbm P < 128 ∧ (gbm P ≠ 0 → PicOk (wot P (gbm P))) := fun P h => ⟨h.pwh, h.g128, hO.2.2 P h⟩
theorem c_simpler {xs : KS} {p what : Int} (hO : Owed) : COk xs 100 [(0, 18, 0, 0), (1, 0, 0, p), (2, 0, 0, what)] (opSimpler p what) := by
  intro d S G I Q hS hI h
  have no : ∀ r, opSimpler p what S = (r, S) → Q r G I := fun r e => by rw [e] at h; exact h G I hS (hif.rf I)
  refine b_C_simpler_0 (t_C_isPicture hS.1 ⟨fun h1 => no _ (by unfold opSimpler; rw [if_neg (fun hh => of_decide_eq_false (bi0 h1) ⟨hh.1, hh.2.1⟩)]), fun h1 => ⟨fun h2 => no _ (by unfold opSimpler; rw [if_neg (by omega)]), fun h2 => ⟨fun h3 => ?_, fun h3 => no _ (by unfold opSimpler; rw [if_neg (by omega)])⟩⟩⟩)
  have hp : 0 ≤ p ∧ p < S.1.length := of_decide_eq_true (bi1 h1)
  have h12 := hS.1.2.1
  obtain ⟨i, rfl⟩ : ∃ i : Nat, p = i := ⟨p.toNat, by omega⟩
  have hi : i < S.1.length := by omega
  have hP := (hS.1.2.2 i hi).1
  unfold opSimpler at h
  rw [if_pos ⟨hp.1, hp.2, h2, h3⟩, show pg S.1 (i : Int) = pget S.1 i from rfl] at h
  simp only at h
  refine ⟨by omega, t_C_makeSimpler PicOk (smp_ok hO) hP (by omega) (hI.pic hi) (fun J hJ hf => ?_)⟩
  have h := h G J (hS.sf (hf.sf (by omega) (by omega)) (hS.1.kfr hf (by omega) (by omega))) (hf.sf (by omega) (by omega)).hi
  rw [hJ.2.2.1]
  refine ⟨fun w => ?_, fun w => ?_⟩
  · rw [if_neg w] at h; exact h
  · rw [if_pos w] at h; exact h
theorem c_simplify {xs : KS} {p : Int} (hO : Owed) : COk xs 101 [(0, 18, 0, 0), (1, 0, 0, p)] (opSimplify p) := by
  intro d S G I Q hS hI h
  unfold opSimplify at h
  refine b_C_simplify_0 (t_C_isPicture hS.1 ⟨fun h1 => ?_, fun h1 => ?_⟩)
  · have hp : 0 ≤ p ∧ p < S.1.length := of_decide_eq_true (bi1 h1)
    have h12 := hS.1.2.1
    obtain ⟨i, rfl⟩ : ∃ i : Nat, p = i := ⟨p.toNat, by omega⟩
    have hi : i < S.1.length := by omega
    have hP := (hS.1.2.2 i hi).1
    rw [if_pos hp, show pg S.1 (i : Int) = pget S.1 i from rfl] at h
    simp only [Int.toNat_natCast] at h
    refine ⟨by omega, t_C_makeSimpler PicOk (smp_ok hO) hP (by omega) (hI.pic hi) (fun J1 hJ1 hf1 => ⟨by omega, t_Picture_copy hJ1 (by omega) (fun J2 hJ2 hf2 h32 => t_Changes_end (fun J3 hC3 hf3 => ?_))⟩)⟩
    have g : ∀ a k, ¬ (3 ≤ a ∧ a < 20) → ¬ (a = 2 + (39 + 4 * (i : Int)) ∨ a = 2 + (39 + 4 * (i : Int)) + 1) → ¬ (a = 35 ∨ a = 36) → J3 a k = I a k := fun a k n1 n2 n3 => by
      rw [hf3 _ _ (by omega), hf2 _ _ (by omega), hf1 _ _ (by omega)]
    have e4 : J3 3 4 = ((smpL 7 (pget S.1 i)).2.2.length : Int) := by rw [hf3 _ _ (by omega), hf2 _ _ (by omega)]; exact hJ1.2.2.1
    rw [e4]
    refine h G J3 (hS.chg (fun a k n1 n2 n3 => g a k n1 (by omega) n3) (hS.1.upd hi (fun a k n1 n2 n3 => g a k (by omega) (by omega) (by omega)) (hJ2.fr hf3 (by omega)) (by rw [hf3 _ _ (by omega)]; exact h32)) hC3) (fun a k hk => g a k (by omega) (by omega) (by omega))
  · rw [if_neg (of_decide_eq_false (bi0 h1))] at h
    exact h G I hS (hif.rf I)
theorem c_parted {xs : KS} {p what : Int} : COk xs 102 [(0, 18, 0, 0), (1, 0, 0, p), (2, 0, 0, what)] (opParted p what) := by
  intro d S G I Q hS hI h
  have no : ∀ r, opParted p what S = (r, S) → Q r G I := fun r e => by rw [e] at h; exact h G I hS (hif.rf I)
  refine b_C_parted_0 (t_C_isPicture hS.1 ⟨fun h1 => no _ (by unfold opParted; rw [if_neg (fun hh => of_decide_eq_false (bi0 h1) ⟨hh.1, hh.2.1⟩)]), fun h1 => ⟨fun h2 => no _ (by unfold opParted; rw [if_neg (by omega)]), fun h2 => ⟨fun h3 => ?_, fun h3 => no _ (by unfold opParted; rw [if_neg (by omega)])⟩⟩⟩)
  have hp : 0 ≤ p ∧ p < S.1.length := of_decide_eq_true (bi1 h1)
  have h12 := hS.1.2.1
  obtain ⟨i, rfl⟩ : ∃ i : Nat, p = i := ⟨p.toNat, by omega⟩
  have hi : i < S.1.length := by omega
  have hP := (hS.1.2.2 i hi).1
  have hm := hP.2.1
  unfold opParted at no
  rw [if_pos ⟨hp.1, hp.2, h2, h3⟩, show pg S.1 (i : Int) = pget S.1 i from rfl] at no
  simp only at no
  generalize hPe : pget S.1 i = P at *
  unfold prt at no
  refine ⟨by omega, ?_⟩
  suffices key : ∀ (u j : Nat), j + u = P.1.length - 2 → (∀ l, l < j → decide (0 ≤ fop P (l + 2)) = false) → kWP xs true (d + 80) 0 0 102 29 [(2, 0, 0, what), (3, 13, 0, (2 + (39 + 4 * (i : Int)))), (4, 0, 0, ((j + 2 : Nat) : Int))] [] G I Q from key (P.1.length - 2) 0 (by omega) (fun l hl => absurd hl (Nat.not_lt_zero l))
  intro u
  induction u with
  | zero =>
    intro j hj hl
    have e : j = P.1.length - 2 := by omega
    refine b_C_parted_29 ?_
    rw [hP.2.2.2.1]
    refine ⟨fun _ => no _ ?_, fun hh => by omega⟩
    rw [fnd_none (n := P.1.length - 2) (fun l h => hl l (by omega)), if_neg (by omega)]
  | succ u ih =>
    intro j hj hl
    refine b_C_parted_29 ?_
    rw [hP.2.2.2.1]
    refine ⟨fun hh => by omega, fun _ => t_Picture_firstOfPart hP (by omega) ⟨fun hh => ?_, fun hh => ?_⟩⟩
    · rw [w32_inc (by omega)]
      exact ih (j + 1) (by omega) (all_step (p := fun l => decide (0 ≤ fop P (l + 2)) = false) hl (decide_eq_false (by omega)))
    · have ef := fnd_eq (f := fun i => decide (0 ≤ fop P (i + 2))) (n := P.1.length - 2) (by omega) (decide_eq_true hh) hl
      refine ⟨fun w => no _ ?_, fun w => no _ ?_⟩
      · rw [ef, if_pos (by omega), if_neg w]
      · rw [ef, if_pos (by omega), if_pos w]; rfl
theorem c_hidden {xs : KS} {p b what : Int} (hx : (xs 0).1 = 64) (hO : Owed) : COk xs 103 [(0, 18, 0, 0), (1, 0, 0, p), (2, 0, 0, b), (3, 0, 0, what)] (opHidden xs p b what) := by
  intro d S G I Q hS hI h
  have no : ∀ r, opHidden xs p b what S = (r, S) → Q r G I := fun r e => by rw [e] at h; exact h G I hS (hif.rf I)
  refine b_C_hidden_0 (t_C_isPicture hS.1 ⟨fun h1 => no _ (by unfold opHidden; rw [if_neg (fun hh => of_decide_eq_false (bi0 h1) ⟨hh.1, hh.2.1⟩)]), fun h1 => ⟨fun h2 => no _ (by unfold opHidden; rw [if_neg (by omega)]), fun h2 => ⟨fun h3 => ?_, fun h3 => no _ (by unfold opHidden; rw [if_neg (by omega)])⟩⟩⟩)
  have hp : 0 ≤ p ∧ p < S.1.length := of_decide_eq_true (bi1 h1)
  have h12 := hS.1.2.1
  obtain ⟨i, rfl⟩ : ∃ i : Nat, p = i := ⟨p.toNat, by omega⟩
  have hi : i < S.1.length := by omega
  have hP := (hS.1.2.2 i hi).1
  have hR := hI.rg hO i hi
  unfold opHidden at no h
  rw [show pg S.1 (i : Int) = pget S.1 i from rfl] at no h
  refine ⟨by omega, fun h4 => no _ (by rw [if_neg (by omega)]), fun h4 => t_Picture_ways hP ⟨fun h5 => ?_, fun h5 => no _ (by rw [if_neg (by omega)])⟩⟩
  obtain ⟨m, rfl⟩ : ∃ m : Nat, b = m := ⟨b.toNat, by omega⟩
  rw [if_pos ⟨hp.1, hp.2, h2, h3, h4, h5⟩] at h
  simp only [Int.toNat_natCast] at h
  have fin : ∀ J, kfr 11 20 I J → CRep xs S J ∧ hif I J := fun J hf => ⟨hS.sf (hf.sf (by omega) (by omega)) (hS.1.kfr hf (by omega) (by omega)), (hf.sf (by omega) (by omega)).hi⟩
  refine t_Sums_cutS hP (by omega) (fun J1 hC1 hf1 => ⟨fun w => ?_, fun w => ?_⟩)
  · rw [if_neg w] at h
    exact t_C_unlikeAmong hx (hP.fr hf1 (by omega)) hC1 (by omega) hR (by omega) (fun J hf => (fun a => h G J a.1 a.2) (fin J ((hf1.w (by omega) (by omega)).tr hf)))
  · rw [if_pos w] at h
    exact t_C_plainAmong hx (hP.fr hf1 (by omega)) hC1 (by omega) hR (by omega) (fun J hf => (fun a => h G J a.1 a.2) (fin J ((hf1.w (by omega) (by omega)).tr (hf.w (by omega) (by omega)))))
