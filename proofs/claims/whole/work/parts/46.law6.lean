/-! THE LAW'S TEXT: comparing -/
theorem lvl_compared {xs : KS} {d : Nat} {f : Nat → Int} {n : Nat} {e : Int → Int} {o : Int} {A : LSg} (hS : LvlOk 15 xs (d + 1) f n e o A) : LvlOk 14 xs (d + 2) f n e o (lcmp f n A) := by
  intro pl w G I Q hC he h
  refine b_Law_compared_0 (hS pl w G I _ hC he (fun J hJ hf => ?_))
  have h5 : J 21 5 = bi (A pl w).2.2 := hJ.2.2.2.2.1
  refine ⟨fun hw => ?_, fun hw => ?_⟩
  · rw [h5] at hw
    have hw := bi0 hw
    rw [hw] at hJ
    have second : ∀ (J1 : KI) (Q1 : KQ), CLw f n ((A pl w).2.1 + 1) false G J1 → lfr J J1 → (∀ J2 : KI, CLw f n (A ((A pl w).2.1 + 1) false).2.1 (A ((A pl w).2.1 + 1) false).2.2 G J2 → lfr I J2 → Q1 (A ((A pl w).2.1 + 1) false).1 G J2) → kWP xs true (d + 1) 0 0 15 0 [(0, 11, 0, 21), (1, 0, 0, o)] [] G J1 Q1 := fun J1 Q1 hJ1 hf1 hq =>
      hS _ false G J1 Q1 hJ1 ((hf.tr hf1).he he) (fun J2 hJ2 hf2 => hq J2 hJ2 ((hf.tr hf1).tr hf2))
    refine t_Law_comes (by decide) hJ (fun n1 => ⟨fun _ => t_Law_comes (by decide) hJ (fun n2 => ⟨fun _ => t_Law_comes (by decide) hJ (fun n3 => ⟨fun _ => ?_, fun hh => absurd rfl hh⟩) (fun J1 y hJ1 hf1 => ⟨fun hh => absurd hh (by decide), fun _ => second J1 _ hJ1 hf1 (fun J2 hJ2 hf2 => ?_)⟩), fun hh => absurd rfl hh⟩) (fun J1 y hJ1 hf1 => ⟨fun hh => absurd hh (by decide), fun _ => second J1 _ hJ1 hf1 (fun J2 hJ2 hf2 => ?_)⟩), fun hh => absurd rfl hh⟩) (fun J1 y hJ1 hf1 => ⟨fun hh => absurd hh (by decide), fun _ => second J1 _ hJ1 hf1 (fun J2 hJ2 hf2 => ?_)⟩)
    · have e1 : lcmp f n A pl w = A pl w := by unfold lcmp; simp only; rw [if_neg (by rw [hw]; simp), if_neg n1, if_neg n2, if_neg n3]
      rw [e1] at h
      exact h J (by rw [hw]; exact hJ) hf
    · have e1 : lcmp f n A pl w = (bi (decide ((A ((A pl w).2.1 + 1) false).1 < (A pl w).1)), (A ((A pl w).2.1 + 1) false).2) := by unfold lcmp; simp only; rw [if_neg (by rw [hw]; simp), if_neg n1, if_neg n2, if_pos y]
      rw [e1] at h
      refine ⟨fun q => ?_, fun q => ?_⟩
      · have h := h J2 hJ2 hf2; rw [decide_eq_false (by omega)] at h; exact h
      · have h := h J2 hJ2 hf2; rw [decide_eq_true q] at h; exact h
    · have e1 : lcmp f n A pl w = (bi (decide ((A pl w).1 = (A ((A pl w).2.1 + 1) false).1)), (A ((A pl w).2.1 + 1) false).2) := by unfold lcmp; simp only; rw [if_neg (by rw [hw]; simp), if_neg n1, if_pos y]
      rw [e1] at h
      refine ⟨fun q => ?_, fun q => ?_⟩
      · have h := h J2 hJ2 hf2; rw [decide_eq_false q] at h; exact h
      · have h := h J2 hJ2 hf2; rw [decide_eq_true q] at h; exact h
    · have e1 : lcmp f n A pl w = (bi (decide ((A pl w).1 < (A ((A pl w).2.1 + 1) false).1)), (A ((A pl w).2.1 + 1) false).2) := by unfold lcmp; simp only; rw [if_neg (by rw [hw]; simp), if_pos y]
      rw [e1] at h
      refine ⟨fun q => ?_, fun q => ?_⟩
      · have h := h J2 hJ2 hf2; rw [decide_eq_false (by omega)] at h; exact h
      · have h := h J2 hJ2 hf2; rw [decide_eq_true q] at h; exact h
  · rw [h5] at hw
    have hw := bi1 hw
    have e1 : lcmp f n A pl w = (0, (A pl w).2) := by unfold lcmp; simp only; rw [if_pos hw]
    rw [e1] at h
    exact h J hJ hf
