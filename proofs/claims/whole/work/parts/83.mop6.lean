/-! THE MODEL'S CALLS: moves, parts -/
theorem t_M_areNext {xs : KS} {d j k n : Nat} {G : KG} {I : KI} {Q : KQ} (hn : I 101 5 = (n : Int)) (h7 : n ≤ 7) (hj : j < 2 * n) (hk : k < 2 * n) (h : Q (bi (fol (2 * n) j k)) G I) : kWP xs true (d + 1) 0 0 206 0 [(0, 19, 0, 101), (1, 0, 0, (j : Int)), (2, 0, 0, (k : Int))] [] G I Q := by
  unfold fol at h
  refine b_M_areNext_0 (t_M_behind hn h7 hj ⟨fun h1 => ?_, fun h1 => t_M_behind hn h7 hk ⟨fun h2 => ?_, fun h2 => ?_⟩⟩)
  · rw [decide_eq_true (show aft (2 * n) j = k by omega), Bool.true_or] at h; exact h
  · rw [decide_eq_false (show ¬ aft (2 * n) j = k by omega), decide_eq_false (show ¬ aft (2 * n) k = j by omega)] at h; exact h
  · rw [decide_eq_true (show aft (2 * n) k = j by omega), Bool.or_true] at h; exact h
def onM (P : Pic) : Int := if gb1 P < P.2.length then (gb1 P : Int) else -1
def twM (P : Pic) : Int := if gbc P < P.2.length then 10 * (gbc P : Int) + (gbf P (gbc P) : Int) else -1
theorem t_M_oneMove {xs : KS} {d : Nat} {P : Pic} {G : KG} {I : KI} {Q : KQ} (hP : MHd P I) (hW : pwh P) (h : Q (onM P) G I) : kWP xs true (d + 2) 0 0 207 0 [(0, 19, 0, 101)] [] G I Q := by
  have hP0 := hP
  obtain ⟨a7, a2, an, av, as⟩ := hP
  unfold onM at h
  refine b_M_oneMove_0 ?_
  refine loop_up (n := P.2.length) (W := fun c => (∀ e, e < c → fol P.1.length (pln P e true) (pln P e false) = false) → kWP xs true (d + 2) 0 0 207 2 [(0, 19, 0, 101), (1, 0, 0, (c : Int))] [] G I Q) ?_ ?_ (Nat.zero_le _) (fun e he => absurd he (Nat.not_lt_zero e))
  · intro hl
    have e : gb1 P = P.2.length := fnd_none hl
    rw [e, if_neg (by omega)] at h
    refine b_M_oneMove_2 ?_
    rw [an]
    exact ⟨fun _ => h, fun hh => by omega⟩
  · intro c hc ih hl
    refine b_M_oneMove_2 ?_
    rw [an]
    refine ⟨fun hh => by omega, fun _ => t_M_placeOf (b := true) hP0 (t_M_placeOf (b := false) hP0 ?_)⟩
    rw [plc_pln hW hc, plc_pln hW hc]
    have h1 := hW c hc true
    have h2 := hW c hc false
    refine t_M_areNext an a7 (by omega) (by omega) ?_
    rw [← a2]
    cases hb : fol P.1.length (pln P c true) (pln P c false) with
    | false =>
      refine ⟨fun _ => ?_, fun hh => absurd rfl hh⟩
      rw [w32_inc (by omega)]
      exact ih (all_step (p := fun e => fol P.1.length (pln P e true) (pln P e false) = false) hl hb)
    | true =>
      refine ⟨fun hh => absurd hh (by decide), fun _ => ?_⟩
      have e : gb1 P = c := fnd_eq hc hb hl
      rw [e, if_pos hc] at h
      exact h
theorem t_M_twoMove {xs : KS} {d : Nat} {P : Pic} {G : KG} {I : KI} {Q : KQ} (hP : MHd P I) (hW : pwh P) (h : Q (twM P) G I) : kWP xs true (d + 2) 0 0 208 0 [(0, 19, 0, 101)] [] G I Q := by
  have hP0 := hP
  obtain ⟨a7, a2, an, av, as⟩ := hP
  unfold twM at h
  refine b_M_twoMove_0 ?_
  refine loop_up (n := P.2.length) (W := fun c => (∀ e, e < c → decide (gbf P e < P.2.length) = false) → kWP xs true (d + 2) 0 0 208 2 [(0, 19, 0, 101), (1, 0, 0, (c : Int))] [] G I Q) ?_ ?_ (Nat.zero_le _) (fun e he => absurd he (Nat.not_lt_zero e))
  · intro hl
    have e : gbc P = P.2.length := fnd_none hl
    rw [e, if_neg (by omega)] at h
    refine b_M_twoMove_2 ?_
    rw [an]
    exact ⟨fun _ => h, fun hh => by omega⟩
  · intro c hc ih hl
    refine b_M_twoMove_2 ?_
    rw [an, w32_inc (by omega)]
    refine ⟨fun hh => by omega, fun _ => ?_⟩
    suffices key : ∀ (u e : Nat), e + u = P.2.length → c < e → (∀ x, x < e → (decide (c < x) && gb2 P c x) = false) → kWP xs true (d + 2) 0 0 208 14 [(0, 19, 0, 101), (1, 0, 0, (c : Int)), (2, 0, 0, (e : Int))] [] G I Q from key (P.2.length - (c + 1)) (c + 1) (by omega) (by omega) (fun x hx => by rw [decide_eq_false (by omega)]; rfl)
    intro u
    induction u with
    | zero =>
      intro e he hce hx
      refine b_M_twoMove_14 ?_
      rw [an, w32_inc (by omega)]
      refine ⟨fun _ => ih (all_step (p := fun e => decide (gbf P e < P.2.length) = false) hl (decide_eq_false ?_)), fun hh => by omega⟩
      have : gbf P c = P.2.length := fnd_none (fun x hx2 => hx x (by omega))
      omega
    | succ u ihu =>
      intro e he hce hx
      have heN : e < P.2.length := by omega
      have next : gb2 P c e = false → kWP xs true (d + 2) 0 0 208 14 [(0, 19, 0, 101), (1, 0, 0, (c : Int)), (2, 0, 0, ((e + 1 : Nat) : Int))] [] G I Q := fun hg =>
        ihu (e + 1) (by omega) (by omega) (all_step (p := fun x => (decide (c < x) && gb2 P c x) = false) hx (by rw [hg, Bool.and_false]))
      refine b_M_twoMove_14 ?_
      rw [an, as c hc, as e heN, w32_inc (k := e) (by omega)]
      refine ⟨fun hh => by omega, fun _ => ⟨by omega, by omega, fun h1 => next ?_, fun h1 => t_M_placeOf (b := true) hP0 (t_M_placeOf (b := true) hP0 ?_)⟩⟩
      · unfold gb2
        have : (psg P c != psg P e) = false := by
          cases x : psg P c <;> cases y : psg P e <;> rw [x, y] at h1 <;> simp [sgi] at h1 ⊢
        rw [this]; rfl
      · have hne : (psg P c != psg P e) = true := by
          cases x : psg P c <;> cases y : psg P e <;> rw [x, y] at h1 <;> simp [sgi] at h1 ⊢
        rw [plc_pln hW hc, plc_pln hW heN]
        have p1 := hW c hc true
        have p2 := hW e heN true
        have p3 := hW c hc false
        have p4 := hW e heN false
        refine t_M_areNext an a7 (by omega) (by omega) ?_
        rw [← a2]
        cases hb1 : fol P.1.length (pln P c true) (pln P e true) with
        | false => exact ⟨fun _ => next (by unfold gb2; rw [hne, hb1]; rfl), fun hh => absurd rfl hh⟩
        | true =>
          refine ⟨fun hh => absurd hh (by decide), fun _ => t_M_placeOf (b := false) hP0 (t_M_placeOf (b := false) hP0 ?_)⟩
          rw [plc_pln hW hc, plc_pln hW heN]
          refine t_M_areNext an a7 (by omega) (by omega) ?_
          rw [← a2]
          cases hb2 : fol P.1.length (pln P c false) (pln P e false) with
          | false => exact ⟨fun _ => next (by unfold gb2; rw [hne, hb1, hb2]; rfl), fun hh => absurd rfl hh⟩
          | true =>
            refine ⟨fun hh => absurd hh (by decide), fun _ => ?_⟩
            have hg : gb2 P c e = true := by unfold gb2; rw [hne, hb1, hb2]; rfl
            have ef : gbf P c = e := fnd_eq heN (by rw [hg, decide_eq_true hce]; rfl) hx
            have ec : gbc P = c := fnd_eq (f := fun c => decide (gbf P c < P.2.length)) hc (by rw [ef]; exact decide_eq_true heN) hl
            rw [ec, if_pos hc, ef] at h
            rw [w32_id (x := 10 * (c : Int)) (by omega) (by omega), w32_id (by omega) (by omega)]
            exact h
theorem np1 : ∀ c : Nat, c < 7 → npop (2 ^ c) = 1 ∧ dig (2 ^ c) 7 = (c : Int) ∧ 2 ^ c ≠ 0 := by decide +kernel
theorem np2 : ∀ e : Nat, e < 7 → ∀ c : Nat, c < e → npop (2 ^ c ||| 2 ^ e) = 2 ∧ dig (2 ^ c ||| 2 ^ e) 7 = 10 * (c : Int) + (e : Int) ∧ 2 ^ c ||| 2 ^ e ≠ 0 := by decide +kernel
theorem m_moves {xs : KS} {p what : Int} : MOk xs 211 [(0, 19, 0, 101), (1, 0, 0, p), (2, 0, 0, what)] (opMoves p what) := by
  intro d S G I Q hS hI h
  have no : ∀ r J, mscr I J → opMoves p what S = (r, S) → Q r G J := fun r J hm e => by rw [e] at h; exact h G J (hS.ms hm) hm.lo
  refine b_M_moves_0 (t_M_isPicture hS.1.1 hS.1.2.1 ⟨fun h1 => no _ _ (mscr.rf I) (by unfold opMoves; rw [if_neg (fun hh => of_decide_eq_false (bi0 h1) ⟨hh.1, hh.2.1⟩)]), fun h1 => t_M_within ⟨fun h2 => ?_, fun h2 => no _ _ (mscr.rf I) (by unfold opMoves; rw [if_neg (fun hh => of_decide_eq_false (bi0 h2) ⟨hh.2.2.1, hh.2.2.2⟩)])⟩⟩)
  have hp : 0 ≤ p ∧ p < S.1.length := of_decide_eq_true (bi1 h1)
  have h2 := of_decide_eq_true (bi1 h2)
  have h12 := hS.1.2.1
  obtain ⟨i, rfl⟩ : ∃ i : Nat, p = i := ⟨p.toNat, by omega⟩
  have hi : i < S.1.length := by omega
  have hok := hI.ok i hi
  unfold opMoves at no
  rw [if_pos ⟨hp.1, hp.2, h2.1, h2.2⟩, show pg S.1 (i : Int) = pget S.1 i from rfl] at no
  simp only at no
  refine t_M_takesUp hS.1 hi (fun J hP hf => t_M_oneMove hP hok.pwh (t_M_twoMove hP hok.pwh ?_))
  have hm := hf.ms
  have h7 := hok.1
  unfold onM twM
  unfold gbm at no
  by_cases c1 : gb1 (pget S.1 i) < (pget S.1 i).2.length
  · rw [if_pos c1] at no ⊢
    obtain ⟨x1, x2, x3⟩ := np1 _ (show gb1 (pget S.1 i) < 7 by omega)
    refine ⟨fun hh => by omega, fun _ => ⟨fun w => no _ _ hm ?_, fun w => no _ _ hm ?_⟩⟩
    · rw [if_neg w, if_neg x3, x2]
    · rw [if_pos w, x1]; rfl
  · rw [if_neg c1] at no ⊢
    by_cases c2 : gbc (pget S.1 i) < (pget S.1 i).2.length
    · rw [if_pos c2] at no ⊢
      have hs := fnd_spec (f := fun c => decide (gbf (pget S.1 i) c < (pget S.1 i).2.length)) c2
      have hlt : gbf (pget S.1 i) (gbc (pget S.1 i)) < (pget S.1 i).2.length := of_decide_eq_true hs
      have hs2 := fnd_spec (f := fun e => decide (gbc (pget S.1 i) < e) && gb2 (pget S.1 i) (gbc (pget S.1 i)) e) hlt
      rw [Bool.and_eq_true] at hs2
      have hcd : gbc (pget S.1 i) < gbf (pget S.1 i) (gbc (pget S.1 i)) := of_decide_eq_true hs2.1
      obtain ⟨x1, x2, x3⟩ := np2 _ (show gbf (pget S.1 i) (gbc (pget S.1 i)) < 7 by omega) _ hcd
      refine ⟨fun _ => ⟨fun hh => by omega, fun _ => ⟨fun w => no _ _ hm ?_, fun w => no _ _ hm ?_⟩⟩, fun hh => absurd hh (by decide)⟩
      · rw [if_neg w, if_neg x3, x2]
      · rw [if_pos w, x1]; rfl
    · rw [if_neg c2] at no ⊢
      refine ⟨fun _ => ⟨fun _ => ⟨fun w => no _ _ hm ?_, fun w => no _ _ hm ?_⟩, fun hh => absurd hh (by decide)⟩, fun hh => absurd hh (by decide)⟩
      · rw [if_neg w, if_pos rfl]
      · rw [if_pos w, show npop 0 = 0 from by decide]; rfl
