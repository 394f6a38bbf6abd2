/-! THE MODEL'S CALLS: least, over what the shaking owes -/
theorem fnd_at {f : Nat → Bool} {n i : Nat} (hi : i < n) (h : f i = true) (hl : ∀ j, j < i → f j = false) : fnd f n = i := by
  have h1 := fnd_lt hi h
  have h2 := fnd_spec h1
  rcases Nat.lt_trichotomy (fnd f n) i with g | g | g
  · rw [hl _ g] at h2; cases h2
  · exact g
  · have := fnd_min g
    rw [h] at this; cases this
theorem fnd_no {f : Nat → Bool} {n : Nat} (hl : ∀ j, j < n → f j = false) : ¬ fnd f n < n := fun g => by
  have h2 := fnd_spec g
  rw [hl _ g] at h2; cases h2
theorem m_least {xs : KS} {box sm seed v : Int} (hK : OwedS xs) : MOk xs 222 [(0, 19, 0, 101), (1, 0, 0, box), (2, 0, 0, sm), (3, 0, 0, seed), (4, 0, 0, v)] (opLeast xs box sm seed v) := by
  intro d S G I Q hS hI h
  have no : ∀ r J, mscr I J → opLeast xs box sm seed v S = (r, S) → Q r G J := fun r J hm e => by rw [e] at h; exact h G J (hS.ms hm) hm.lo
  have bad : ¬ (0 ≤ box ∧ box ≤ 99 ∧ isSm sm = true ∧ 1 ≤ v ∧ v ≤ 20) → Q (-1) G I := fun hn => no _ _ (mscr.rf I) (by unfold opLeast; rw [if_neg hn])
  refine b_M_least_0 (t_M_within ⟨fun h1 => bad (fun hh => of_decide_eq_false (bi0 h1) ⟨hh.1, hh.2.1⟩), fun h1 => t_M_isSm ⟨fun h2 => bad (fun hh => by rw [bi0 h2] at hh; exact absurd hh.2.2.1 (by decide)), fun h2 => t_M_within ⟨fun h3 => ?_, fun h3 => bad (fun hh => of_decide_eq_false (bi0 h3) ⟨hh.2.2.2.1, hh.2.2.2.2⟩)⟩⟩⟩)
  have h1 := of_decide_eq_true (bi1 h1)
  have h2 := bi1 h2
  have h3 := of_decide_eq_true (bi1 h3)
  obtain ⟨s1, s2, m, m1, m2, m3, m4⟩ := sm_num h2
  unfold opLeast at no
  rw [if_pos ⟨h1.1, h1.2, h2, h3.1, h3.2⟩] at no
  unfold lstL shkS at no
  rw [m2] at no
  generalize hf : (fun (l : Nat) => decide (v ≤ (((shk xs (fw8 S.2.2.1) S.2.2.1.length (l : Int) box (kidiv sm 10) m seed 20).2.1 : Nat) : Int))) = f at no
  refine loop_up (n := 100) (W := fun i => ∀ J : KI, mscr I J → (∀ j, j < i → f j = false) → kWP xs true (d + 80) 0 0 222 37 [(0, 19, 0, 101), (1, 0, 0, box), (2, 0, 0, sm), (3, 0, 0, seed), (4, 0, 0, v), (5, 0, 0, (i : Int))] [] G J Q) ?_ ?_ (Nat.zero_le _) I (mscr.rf I) (fun i hi => absurd hi (Nat.not_lt_zero i))
  · intro J hm hl
    exact b_M_least_37 ⟨fun _ => no _ _ hm (by rw [if_neg (fnd_no hl)]), fun hh => by omega⟩
  · intro i hi ih J hm hl
    refine b_M_least_37 ⟨fun hh => by omega, fun _ => ⟨by omega, by omega, ?_⟩⟩
    rw [m1, w32_inc (k := i) (by omega)]
    refine hK _ S G J _ (i : Int) box _ seed m 20 (hS.ms hm) hI (by omega) (by omega) h1.1 h1.2 s1 s2 m3 m4 (by omega) (fun J1 g1 g2 hm1 => ?_)
    have hm2 := hm.tr hm1
    rw [g1]
    refine ⟨fun w => ih J1 hm2 (all_step (p := fun j => f j = false) hl (by rw [← hf]; exact decide_eq_false (by omega))), fun w => ?_⟩
    have hfi := fnd_at (n := 100) hi (show f i = true by rw [← hf]; exact decide_eq_true w) hl
    exact no _ _ hm2 (by rw [hfi, if_pos hi])
