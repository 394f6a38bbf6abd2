/-! PICTURES of plaits, and from the tape -/
def clS (ws : Nat → Nat) (n : Nat) : Nat → VL × Nat
  | 0 => ([], 0)
  | k + 1 => goa ws n (clS ws n k)
def clf (ws : Nat → Nat) (n L : Nat) : Nat := fnd (fun k => decide ((clS ws n (k + 1)).2 = 0)) L
theorem stg_lt {ws : Nat → Nat} {i : Nat} {S : VL × Nat} (hw : ws i < 6) (h : S.2 < 8) : (stg ws i S).2 < 8 := by
  unfold stg
  split
  · show ws i / 2 + 1 < 8; omega
  · split
    · show ws i / 2 < 8; omega
    · exact h
theorem goa_lt {ws : Nat → Nat} {S : VL × Nat} (h : S.2 < 8) : ∀ {j : Nat}, (∀ k, k < j → ws k < 6) → (goa ws j S).2 < 8
  | 0, _ => h
  | j + 1, hw => stg_lt (hw j (by omega)) (goa_lt h (j := j) (fun k hk => hw k (by omega)))
theorem clS_lt {ws : Nat → Nat} {n : Nat} (hw : ∀ k, k < n → ws k < 6) : ∀ k, (clS ws n k).2 < 8
  | 0 => by show 0 < 8; omega
  | k + 1 => goa_lt (clS_lt hw k) hw
theorem clS_mem {ws : Nat → Nat} {n : Nat} : ∀ {k : Nat} {z : Nat × Bool × Bool}, z ∈ (clS ws n k).1 → z.1 < n
  | 0, z, h => by simp [clS] at h
  | k + 1, z, h => by
    rcases goa_mem h with h | h
    · exact clS_mem (k := k) h
    · exact h
theorem t_Picture_beClosed {xs : KS} {d : Nat} {p wa : Int} {w1 n L : Nat} {ws : Nat → Nat} {G : KG} {I : KI} {Q : KQ} (hwa : p + 3 ≤ wa ∨ wa < p) (hw : ∀ k, k < n → I wa k = (ws k : Int) ∧ ws k < 6) (hn : n ≤ 7) (hn1 : n ≤ w1) (hL : L ≤ 8)
    (hlen : ∀ k, k < L → (∀ i, i < k → (clS ws n (i + 1)).2 ≠ 0) → (clS ws n (k + 1)).1.length ≤ 14)
    (h : ∀ I' : KI, CPic p (bldF bs0 (clS ws n (min (clf ws n L + 1) L)).1).2 I' → kfr p (p + 3) I I' → I' p 3 = 0 → Q (bi (decide (clf ws n L + 1 = L))) G I') : kWP xs true (d + 2) 0 0 48 0 [(0, 13, 0, p), (1, 4, w1, wa), (2, 0, 0, (n : Int)), (3, 0, 0, (L : Int))] [] G I Q := by
  refine b_Picture_beClosed_0 (t_Picture_begin (fun J hB0 hf0 hs0 => ?_))
  have key := loop_up (n := L) (W := fun j => (∀ i, i < j → (clS ws n (i + 1)).2 ≠ 0) → ∀ J : KI, CBld p (bldF bs0 (clS ws n j).1) J → kfr p (p + 3) I J → J p 3 = 0 → kWP xs true (d + 2) 0 0 48 10 [(0, 13, 0, p), (1, 4, w1, wa), (2, 0, 0, (n : Int)), (3, 0, 0, (L : Int)), (4, 0, 0, ((clS ws n j).2 : Int)), (5, 0, 0, ((j : Int) + 1))] [] G J Q) ?_ ?_ (Nat.zero_le _) (fun i hi => absurd hi (Nat.not_lt_zero i)) J hB0 hf0 hs0
  · exact key
  · intro hi J hB hf hs
    have e : clf ws n L = L := fnd_none (fun i hi2 => decide_eq_false (hi i hi2))
    rw [e, Nat.min_eq_right (by omega), decide_eq_false (by omega)] at h
    exact b_Picture_beClosed_10 ⟨fun _ => h J hB.1 hf hs, fun h1 => by omega⟩
  · intro j hj ih hi J hB hf hs
    refine b_Picture_beClosed_10 ⟨fun h1 => by omega, fun _ => ?_⟩
    refine t_Picture_goAlong (l := (clS ws n j).1) (pl := (clS ws n j).2) hwa (fun k hk => ?_) hn hn1 hB (fun z hz => Nat.lt_of_lt_of_le (clS_mem hz) hn) (clS_lt (fun k hk => (hw k hk).2) j) (hlen j hj hi) (fun J' hB' hf' hs' => ?_)
    · rw [hf _ _ (by omega)]; exact hw k hk
    · change CBld p (bldF bs0 (clS ws n (j + 1)).1) J' at hB'
      change (((clS ws n (j + 1)).2 : Int) ≠ 0 → _) ∧ (((clS ws n (j + 1)).2 : Int) = 0 → _)
      refine ⟨fun h1 => ?_, fun h1 => ?_⟩
      · rw [w32_id (by omega) (by omega)]
        refine ih (fun i hi2 => ?_) J' hB' (hf.tr hf') (by rw [hs']; exact hs)
        by_cases hij : i = j
        · subst hij; omega
        · exact hi i (by omega)
      · have e : clf ws n L = j := fnd_eq hj (decide_eq_true (by omega)) (fun i hi2 => decide_eq_false (hi i hi2))
        rw [e, Nat.min_eq_left (by omega)] at h
        refine ⟨fun h2 => ?_, fun h2 => ?_⟩
        · rw [decide_eq_false (by omega)] at h
          exact h J' hB'.1 (hf.tr hf') (by rw [hs']; exact hs)
        · rw [decide_eq_true (by omega)] at h
          exact h J' hB'.1 (hf.tr hf') (by rw [hs']; exact hs)
