/-! THE LAW'S TEXT: multiplying -/
theorem lvl_multiplied {xs : KS} {d : Nat} {f : Nat → Int} {n : Nat} {e : Int → Int} {o : Int} {S : LSg} (hS : LvlOk 19 xs (d + 1) f n e o S) : LvlOk 16 xs (d + 2) f n e o (lmul f n S) := by
  intro pl w G I Q hC he h
  refine b_Law_multiplied_0 (hS pl w G I _ hC he (fun J0 hJ0 hf0 => ?_))
  unfold lmul at h
  suffices key : ∀ (k i : Nat) (r : LR) (J : KI), i + k = 120 → lml f n S k r = lml f n S 120 (S pl w) → CLw f n r.2.1 r.2.2 G J → lfr I J → kWP xs true (d + 2) 0 0 16 8 [(0, 11, 0, 21), (1, 0, 0, o), (2, 0, 0, r.1), (3, 0, 0, (i : Int))] [] G J Q from key 120 0 (S pl w) J0 rfl rfl hJ0 hf0
  intro k
  induction k with
  | zero =>
    intro i r J hi hl hJ hf
    rw [← hl] at h
    exact b_Law_multiplied_8 ⟨fun _ => h J hJ hf, fun h1 => by omega⟩
  | succ k ih =>
    intro i r J hi hl hJ hf
    have fin : lml f n S (k + 1) r = r → Q r.1 G J := fun e1 => by
      rw [← hl, e1] at h
      exact h J hJ hf
    have h5 : J 21 5 = bi r.2.2 := hJ.2.2.2.2.1
    refine b_Law_multiplied_8 ⟨fun h1 => by omega, fun _ => ⟨fun h1 => fin ?_, fun h1 => ?_⟩⟩
    · rw [h5] at h1
      rw [lml, if_pos (bi1 h1)]
    · rw [h5] at h1
      have hw := bi0 h1
      have hn : ¬ r.2.2 = true := by rw [hw]; simp
      rw [hw] at hJ
      have go : ∀ (J1 : KI) (Q1 : KQ), CLw f n (r.2.1 + 1) false G J1 → lfr J J1 → (∀ J2 : KI, CLw f n (S (r.2.1 + 1) false).2.1 (S (r.2.1 + 1) false).2.2 G J2 → lfr I J2 → Q1 (S (r.2.1 + 1) false).1 G J2) → kWP xs true (d + 1) 0 0 19 0 [(0, 11, 0, 21), (1, 0, 0, o)] [] G J1 Q1 := fun J1 Q1 hJ1 hf1 hq =>
        hS _ false G J1 Q1 hJ1 ((hf.tr hf1).he he) (fun J2 hJ2 hf2 => hq J2 hJ2 ((hf.tr hf1).tr hf2))
      refine t_Law_comes (by decide) hJ (fun n1 => ⟨fun _ => t_Law_comes (by decide) hJ (fun n2 => ⟨fun _ => t_Law_comes (by decide) hJ (fun n3 => ⟨fun _ => fin ?_, fun hh => absurd rfl hh⟩) (fun J1 y hJ1 hf1 => ⟨fun hh => absurd hh (by decide), fun _ => go J1 _ hJ1 hf1 (fun J2 hJ2 hf2 => t_Law_left ?_)⟩), fun hh => absurd rfl hh⟩) (fun J1 y hJ1 hf1 => ⟨fun hh => absurd hh (by decide), fun _ => go J1 _ hJ1 hf1 (fun J2 hJ2 hf2 => t_Law_divided ?_)⟩), fun hh => absurd rfl hh⟩) (fun J1 y hJ1 hf1 => ⟨fun hh => absurd hh (by decide), fun _ => go J1 _ hJ1 hf1 (fun J2 hJ2 hf2 => ?_)⟩)
      · rw [lml, if_neg hn, if_neg n1, if_neg n2, if_neg n3]
      · rw [w32_id (x := (i : Int) + 1) (by omega) (by omega)]
        exact ih (i + 1) (llf r.1 (S (r.2.1 + 1) false).1, (S (r.2.1 + 1) false).2) J2 (by omega) (by rw [← hl, lml, if_neg hn, if_neg n1, if_neg n2, if_pos y]) hJ2 hf2
      · rw [w32_id (x := (i : Int) + 1) (by omega) (by omega)]
        exact ih (i + 1) (ldv r.1 (S (r.2.1 + 1) false).1, (S (r.2.1 + 1) false).2) J2 (by omega) (by rw [← hl, lml, if_neg hn, if_neg n1, if_pos y]) hJ2 hf2
      · rw [w32_id (x := (i : Int) + 1) (by omega) (by omega)]
        exact ih (i + 1) (w32 (r.1 * (S (r.2.1 + 1) false).1), (S (r.2.1 + 1) false).2) J2 (by omega) (by rw [← hl, lml, if_neg hn, if_pos y]) hJ2 hf2
