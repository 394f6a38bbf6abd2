/-! THE LAW'S TEXT: numbers -/
/-- a number: value and place, at most u more digits -/
def lnm (f : Nat → Int) (n : Nat) : Nat → Int → Nat → Int × Nat
  | 0, v, pl => (v, pl)
  | u + 1, v, pl => if 48 ≤ lsg f n pl ∧ lsg f n pl ≤ 57 then lnm f n u (10 * v + lsg f n pl - 48) (pl + 1) else (v, pl)
def p10 : Nat → Int
  | 0 => 1
  | j + 1 => 10 * p10 j
theorem p10_le : ∀ j, j < 5 → 1 ≤ p10 j ∧ p10 j ≤ 10000 := by decide
theorem t_Law_number {xs : KS} {d : Nat} {f : Nat → Int} {n pl : Nat} {w : Bool} {G : KG} {I : KI} {Q : KQ} (hC : CLw f n pl w G I)
    (h : ∀ I' : KI, CLw f n (lnm f n 4 0 pl).2 w G I' → lfr I I' → Q (lnm f n 4 0 pl).1 G I') : kWP xs true (d + 1) 0 0 22 0 [(0, 11, 0, 21)] [] G I Q := by
  refine b_Law_number_0 ?_
  suffices key : ∀ (u j pl' : Nat) (v : Int) (J : KI), j + u = 4 → 0 ≤ v → v < p10 j → lnm f n u v pl' = lnm f n 4 0 pl → CLw f n pl' w G J → lfr I J → kWP xs true (d + 1) 0 0 22 4 [(0, 11, 0, 21), (1, 0, 0, v), (2, 0, 0, (j : Int))] [] G J Q from key 4 0 pl 0 I rfl (Int.le_refl 0) (by decide) rfl hC (lfr.rf I)
  intro u
  induction u with
  | zero =>
    intro j pl' v J hj h0 h1 hl hJ hf
    rw [← hl] at h
    exact b_Law_number_4 ⟨fun _ => h J hJ hf, fun h2 => by omega⟩
  | succ u ih =>
    intro j pl' v J hj h0 h1 hl hJ hf
    have h10 := p10_le j (by omega)
    have stop : ¬ (48 ≤ lsg f n pl' ∧ lsg f n pl' ≤ 57) → Q v G J := fun hn => by
      have e : lnm f n (u + 1) v pl' = (v, pl') := by unfold lnm; rw [if_neg hn]
      rw [← hl, e] at h
      exact h J hJ hf
    refine b_Law_number_4 ⟨fun h2 => by omega, fun _ => t_Law_next hJ ⟨fun h2 => stop (by omega), fun h2 => t_Law_next hJ ⟨fun h3 => stop (by omega), fun h3 => t_Law_next hJ (fun J1 e1 => ?_)⟩⟩⟩
    obtain ⟨c1, c2, c3, c4, c5, c6, c7⟩ := hJ
    have hpl : pl' < n := by
      unfold lsg at h2
      rcases Nat.lt_or_ge pl' n with hl | hl
      · exact hl
      · rw [if_neg (by omega)] at h2; omega
    have e : lnm f n (u + 1) v pl' = lnm f n u (10 * v + lsg f n pl' - 48) (pl' + 1) := by rw [lnm, if_pos ⟨h2, h3⟩]
    have e10 : p10 (j + 1) = 10 * p10 j := rfl
    rw [w32_id (x := 10 * v) (by omega) (by omega), w32_id (x := 10 * v + lsg f n pl') (by omega) (by omega), w32_id (x := 10 * v + lsg f n pl' - 48) (by omega) (by omega), w32_id (x := (j : Int) + 1) (by omega) (by omega)]
    refine ih (j + 1) (pl' + 1) _ J1 (by omega) (by omega) (by omega) (by rw [← e]; exact hl) ⟨c1, by rw [e1, kst_k (by omega)]; exact c2, by rw [e1, kst_s, c3, w32_id (by omega) (by omega)]; omega, by omega, by rw [e1, kst_k (by omega)]; exact c5, fun k hk => ?_, c7⟩ (hf.tr (fun a k hk => ?_))
    · rw [e1, kst_a (by omega)]; exact c6 k hk
    · rw [e1, kst_n (by omega)]
