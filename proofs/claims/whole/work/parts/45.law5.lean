/-! THE LAW'S TEXT: loops over a level -/
def LvlOk (j : Nat) (xs : KS) (d : Nat) (f : Nat → Int) (n : Nat) (e : Int → Int) (o : Int) (S : LSg) : Prop :=
  ∀ (pl : Nat) (w : Bool) (G : KG) (I : KI) (Q : KQ), CLw f n pl w G I → (∀ k : Int, 6 ≤ k → k ≤ 10 → I 21 k = e k) → (∀ I' : KI, CLw f n (S pl w).2.1 (S pl w).2.2 G I' → lfr I I' → Q (S pl w).1 G I') → kWP xs true d 0 0 j 0 [(0, 11, 0, 21), (1, 0, 0, o)] [] G I Q
theorem lfr.he {I J : KI} {e : Int → Int} (h : lfr I J) (he : ∀ k : Int, 6 ≤ k → k ≤ 10 → I 21 k = e k) : ∀ k : Int, 6 ≤ k → k ≤ 10 → J 21 k = e k := fun k h1 h2 => by rw [h 21 k (by omega)]; exact he k h1 h2
theorem lvl_both {xs : KS} {d : Nat} {f : Nat → Int} {n : Nat} {e : Int → Int} {o : Int} {C : LSg} (hS : LvlOk 14 xs (d + 1) f n e o C) : LvlOk 13 xs (d + 2) f n e o (lbth f n C) := by
  intro pl w G I Q hC he h
  refine b_Law_both_0 (hS pl w G I _ hC he (fun J0 hJ0 hf0 => ?_))
  unfold lbth at h
  suffices key : ∀ (k i : Nat) (r : LR) (J : KI), i + k = 120 → lbl f n 38 (fun a b => bi (decide (a ≠ 0 ∧ b ≠ 0))) C k r = lbl f n 38 (fun a b => bi (decide (a ≠ 0 ∧ b ≠ 0))) C 120 (C pl w) → CLw f n r.2.1 r.2.2 G J → lfr I J → kWP xs true (d + 2) 0 0 13 8 [(0, 11, 0, 21), (1, 0, 0, o), (2, 0, 0, r.1), (3, 0, 0, (i : Int))] [] G J Q from key 120 0 (C pl w) J0 rfl rfl hJ0 hf0
  intro k
  induction k with
  | zero =>
    intro i r J hi hl hJ hf
    rw [← hl] at h
    exact b_Law_both_8 ⟨fun _ => h J hJ hf, fun h1 => by omega⟩
  | succ k ih =>
    intro i r J hi hl hJ hf
    have fin : lbl f n 38 (fun a b => bi (decide (a ≠ 0 ∧ b ≠ 0))) C (k + 1) r = r → Q r.1 G J := fun e1 => by
      rw [← hl, e1] at h
      exact h J hJ hf
    have h5 : J 21 5 = bi r.2.2 := hJ.2.2.2.2.1
    refine b_Law_both_8 ⟨fun h1 => by omega, fun _ => ⟨fun h1 => fin ?_, fun h1 => t_Law_comes (by decide) hJ (fun h2 => ⟨fun _ => fin ?_, fun hh => absurd rfl hh⟩) (fun J1 h2 hJ1 hf1 => ⟨fun hh => absurd hh (by decide), fun _ => ?_⟩)⟩⟩
    · rw [h5] at h1
      rw [lbl, if_pos (bi1 h1)]
    · rw [h5] at h1
      rw [lbl, if_neg (by rw [bi0 h1]; simp), if_neg h2]
    · rw [h5] at h1
      have hw := bi0 h1
      rw [hw] at hJ1
      have e2 : lbl f n 38 (fun a b => bi (decide (a ≠ 0 ∧ b ≠ 0))) C (k + 1) r = lbl f n 38 (fun a b => bi (decide (a ≠ 0 ∧ b ≠ 0))) C k (bi (decide (r.1 ≠ 0 ∧ (C (r.2.1 + 1) false).1 ≠ 0)), (C (r.2.1 + 1) false).2) := by
        rw [lbl, if_neg (by rw [hw]; simp), if_pos h2]
      refine hS _ false G J1 _ hJ1 ((hf.tr hf1).he he) (fun J2 hJ2 hf2 => ?_)
      have go : ∀ b : Bool, b = decide (r.1 ≠ 0 ∧ (C (r.2.1 + 1) false).1 ≠ 0) → kWP xs true (d + 2) 0 0 13 8 [(0, 11, 0, 21), (1, 0, 0, o), (2, 0, 0, bi b), (3, 0, 0, (w32 ((i : Int) + 1)))] [] G J2 Q := fun b hb => by
        rw [w32_id (by omega) (by omega), hb]
        exact ih (i + 1) (bi (decide (r.1 ≠ 0 ∧ (C (r.2.1 + 1) false).1 ≠ 0)), (C (r.2.1 + 1) false).2) J2 (by omega) (by rw [← e2]; exact hl) hJ2 ((hf.tr hf1).tr hf2)
      exact ⟨fun a0 => go false (by rw [decide_eq_false (fun hh => hh.1 a0)]), fun a0 => ⟨fun b0 => go false (by rw [decide_eq_false (fun hh => hh.2 b0)]), fun b0 => go true (by rw [decide_eq_true ⟨a0, b0⟩])⟩⟩
theorem lvl_either {xs : KS} {d : Nat} {f : Nat → Int} {n : Nat} {e : Int → Int} {o : Int} {C : LSg} (hS : LvlOk 13 xs (d + 1) f n e o C) : LvlOk 12 xs (d + 2) f n e o (leit f n C) := by
  intro pl w G I Q hC he h
  refine b_Law_either_0 (hS pl w G I _ hC he (fun J0 hJ0 hf0 => ?_))
  unfold leit at h
  suffices key : ∀ (k i : Nat) (r : LR) (J : KI), i + k = 120 → lbl f n 124 (fun a b => bi (decide (a ≠ 0 ∨ b ≠ 0))) C k r = lbl f n 124 (fun a b => bi (decide (a ≠ 0 ∨ b ≠ 0))) C 120 (C pl w) → CLw f n r.2.1 r.2.2 G J → lfr I J → kWP xs true (d + 2) 0 0 12 8 [(0, 11, 0, 21), (1, 0, 0, o), (2, 0, 0, r.1), (3, 0, 0, (i : Int))] [] G J Q from key 120 0 (C pl w) J0 rfl rfl hJ0 hf0
  intro k
  induction k with
  | zero =>
    intro i r J hi hl hJ hf
    rw [← hl] at h
    exact b_Law_either_8 ⟨fun _ => h J hJ hf, fun h1 => by omega⟩
  | succ k ih =>
    intro i r J hi hl hJ hf
    have fin : lbl f n 124 (fun a b => bi (decide (a ≠ 0 ∨ b ≠ 0))) C (k + 1) r = r → Q r.1 G J := fun e1 => by
      rw [← hl, e1] at h
      exact h J hJ hf
    have h5 : J 21 5 = bi r.2.2 := hJ.2.2.2.2.1
    refine b_Law_either_8 ⟨fun h1 => by omega, fun _ => ⟨fun h1 => fin ?_, fun h1 => t_Law_comes (by decide) hJ (fun h2 => ⟨fun _ => fin ?_, fun hh => absurd rfl hh⟩) (fun J1 h2 hJ1 hf1 => ⟨fun hh => absurd hh (by decide), fun _ => ?_⟩)⟩⟩
    · rw [h5] at h1
      rw [lbl, if_pos (bi1 h1)]
    · rw [h5] at h1
      rw [lbl, if_neg (by rw [bi0 h1]; simp), if_neg h2]
    · rw [h5] at h1
      have hw := bi0 h1
      rw [hw] at hJ1
      have e2 : lbl f n 124 (fun a b => bi (decide (a ≠ 0 ∨ b ≠ 0))) C (k + 1) r = lbl f n 124 (fun a b => bi (decide (a ≠ 0 ∨ b ≠ 0))) C k (bi (decide (r.1 ≠ 0 ∨ (C (r.2.1 + 1) false).1 ≠ 0)), (C (r.2.1 + 1) false).2) := by
        rw [lbl, if_neg (by rw [hw]; simp), if_pos h2]
      refine hS _ false G J1 _ hJ1 ((hf.tr hf1).he he) (fun J2 hJ2 hf2 => ?_)
      have go : ∀ b : Bool, b = decide (r.1 ≠ 0 ∨ (C (r.2.1 + 1) false).1 ≠ 0) → kWP xs true (d + 2) 0 0 12 8 [(0, 11, 0, 21), (1, 0, 0, o), (2, 0, 0, bi b), (3, 0, 0, (w32 ((i : Int) + 1)))] [] G J2 Q := fun b hb => by
        rw [w32_id (by omega) (by omega), hb]
        exact ih (i + 1) (bi (decide (r.1 ≠ 0 ∨ (C (r.2.1 + 1) false).1 ≠ 0)), (C (r.2.1 + 1) false).2) J2 (by omega) (by rw [← e2]; exact hl) hJ2 ((hf.tr hf1).tr hf2)
      exact ⟨fun a0 => go true (by rw [decide_eq_true (Or.inl a0)]), fun a0 => ⟨fun b0 => go false (by rw [decide_eq_false (fun hh => hh.elim (fun x => x a0) (fun x => x b0))]), fun b0 => go true (by rw [decide_eq_true (Or.inr b0)])⟩⟩
