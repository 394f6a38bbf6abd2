/-! PICTURES read from the tape -/
/-- reading from place i: the place of the fault or -1, and the picture so far -/
def rtp (f : Nat → Int) (n : Nat) : Nat → Nat → Pic → Int × Pic
  | 0, _, P => (-2, P)
  | u + 1, i, P =>
    if n ≤ i then (if P.1.length = 2 * P.2.length then ((-1 : Int), P) else ((n : Int), P))
    else if ¬ (f i = 111 ∨ f i = 117) then ((i : Int), P)
    else if amc P (decide (f i = 111)) = false then ((i : Int), P)
    else if n ≤ i + 1 then ((n : Int), P)
    else if mcm P (f (i + 1) - 49) (decide (f i = 111)) = false then (((i + 1 : Nat) : Int), P)
    else if f (i + 1) - 49 ≠ P.2.length then rtp f n u (i + 2) (rst P (f (i + 1) - 49).toNat (decide (f i = 111)) false)
    else if n ≤ i + 2 then ((n : Int), P)
    else if f (i + 2) = 43 then rtp f n u (i + 3) (rst P (f (i + 1) - 49).toNat (decide (f i = 111)) true)
    else if f (i + 2) = 45 then rtp f n u (i + 3) (rst P (f (i + 1) - 49).toNat (decide (f i = 111)) false)
    else (((i + 2 : Nat) : Int), P)
theorem t_Picture_read {xs : KS} {d : Nat} {p e : Int} {n : Nat} {f : Nat → Int} {G : KG} {I : KI} {Q : KQ} (he : p + 3 ≤ e ∨ e < p) (hf0 : ∀ k, k < n → I e (k : Int) = f k ∧ -128 ≤ f k ∧ f k < 128) (hn : n ≤ 120)
    (h : ∀ I' : KI, RdP (rtp f n (n + 1) 0 ([], [])).2 → CPic p (rtp f n (n + 1) 0 ([], [])).2 I' → kfr p (p + 3) I I' → I' p 3 = 0 → Q (rtp f n (n + 1) 0 ([], [])).1 G I') : kWP xs true (d + 4) 0 0 46 0 [(0, 13, 0, p), (1, 6, 120, e), (2, 0, 0, (n : Int))] [] G I Q := by
  refine b_Picture_read_0 (t_Picture_begin (fun J hB0 hf0' hs0 => ?_))
  suffices key : ∀ (u i : Nat) (P : Pic) (J : KI), i ≤ n → n < i + u → rtp f n u i P = rtp f n (n + 1) 0 ([], []) → RdP P → CBld p (List.range P.2.length, P) J → kfr p (p + 3) I J → J p 3 = 0 → kWP xs true (d + 4) 0 0 46 6 [(0, 13, 0, p), (1, 6, 120, e), (2, 0, 0, (n : Int)), (3, 0, 0, (i : Int))] [] G J Q from key (n + 1) 0 ([], []) J (by omega) (by omega) rfl ⟨by simp, by simp⟩ hB0 hf0' hs0
  intro u
  induction u with
  | zero => intro i P J h1 h2; omega
  | succ u ih =>
    intro i P J hi hu hR hd hB hf hs
    have hB1 : CPic p P J := hB.1
    have fin : ∀ r : Int, rtp f n (u + 1) i P = (r, P) → Q r G J := fun r hr => by
      rw [hr] at hR
      rw [← hR] at h
      exact h J hd hB1 hf hs
    refine b_Picture_read_6 ⟨fun h1 => t_Picture_isWhole hB1 ⟨fun h2 => fin n ?_, fun h2 => fin (-1) ?_⟩, fun h1 => ?_⟩
    · have h2 : ¬ P.1.length = 2 * P.2.length := fun hh => by rw [decide_eq_true hh] at h2; simp [bi] at h2
      unfold rtp; rw [if_pos (by omega), if_neg h2]
    · have h2 : P.1.length = 2 * P.2.length := by
        rcases Decidable.em (P.1.length = 2 * P.2.length) with hh | hh
        · exact hh
        · rw [decide_eq_false hh] at h2; simp [bi] at h2
      unfold rtp; rw [if_pos (by omega), if_pos h2]
    · have hni : ¬ n ≤ i := by omega
      have hf1 := hf0 i (by omega)
      have hJ : ∀ k, k < n → J e (k : Int) = f k := fun k hk => by rw [hf _ _ (by omega)]; exact (hf0 k hk).1
      have at39 : ∀ o : Bool, o = decide (f i = 111) → (f i = 111 ∨ f i = 117) → kWP xs true (d + 4) 0 0 46 39 [(0, 13, 0, p), (1, 6, 120, e), (2, 0, 0, (n : Int)), (3, 0, 0, (i : Int)), (4, 0, 0, bi o)] [] G J Q := by
        intro o ho hou
        refine b_Picture_read_39 (t_Picture_anyMayCome hB1 ⟨fun h2 => ?_, fun h2 => ?_⟩)
        · have h2 := bi1 h2
          have h2' : ¬ amc P (decide (f i = 111)) = false := by rw [← ho, h2]; simp
          rw [w32_id (x := (i : Int) + 1) (by omega) (by omega)]
          refine ⟨fun h3 => ⟨by omega, ?_⟩, fun h3 => fin n ?_⟩
          · have hf2 := hf0 (i + 1) (by omega)
            rw [show (i : Int) + 1 = ((i + 1 : Nat) : Int) by omega, hJ _ (by omega), w32_id (x := f (i + 1) - 49) (by omega) (by omega)]
            refine t_Picture_mayCome hB1 ⟨fun h4 => ?_, fun h4 => ?_⟩
            · have h4 := bi1 h4
              have h4' : ¬ mcm P (f (i + 1) - 49) (decide (f i = 111)) = false := by rw [← ho, h4]; simp
              obtain ⟨m1, m2, m3, m4⟩ := mcm_out h4
              have hc : (((f (i + 1) - 49).toNat : Nat) : Int) = f (i + 1) - 49 := by omega
              have hnot := plc_not m4
              have hgo : ∀ (s : Bool) (i' : Nat), i < i' → i' ≤ n → rtp f n (u + 1) i P = rtp f n u i' (rst P (f (i + 1) - 49).toNat o s) → kWP xs true (d + 3) 0 0 33 0 [(0, 13, 0, p), (1, 0, 0, (f (i + 1) - 49)), (2, 0, 0, bi o), (3, 0, 0, bi s)] [] G J (fun _ G1 I1 => kWP xs true (d + 4) 0 0 46 6 [(0, 13, 0, p), (1, 6, 120, e), (2, 0, 0, (n : Int)), (3, 0, 0, (i' : Int))] [] G1 I1 Q) := by
                intro s i' hi1 hi2 hr
                rw [← hc]
                refine t_Picture_visit hB (by omega) (rd_lt hd (by omega) hnot) (fun hni => ?_) (fun J' hB' hf' hs' => ?_)
                · rw [List.length_range]
                  have : ¬ (f (i + 1) - 49).toNat < P.2.length := fun hh => hni (List.mem_range.mpr hh)
                  omega
                · rw [rst_nm (by omega)] at hB'
                  exact ih i' _ J' hi2 (by omega) (by rw [← hr]; exact hR) (rst_rd hd (by omega) (by omega) hnot) hB' (hf.tr hf') (by rw [hs']; exact hs)
              rw [hB1.2.2.1]
              refine ⟨fun h5 => ?_, fun h5 => ?_⟩
              · rw [w32_id (x := ((i + 1 : Nat) : Int) + 1) (by omega) (by omega), show ((i + 1 : Nat) : Int) + 1 = ((i + 2 : Nat) : Int) by omega]
                refine hgo false (i + 2) (by omega) (by omega) ?_
                rw [rtp, if_neg hni, if_neg (fun hh => hh hou), if_neg h2', if_neg (by omega), if_neg h4', if_pos h5, ← ho]
              · rw [w32_id (x := ((i + 1 : Nat) : Int) + 1) (by omega) (by omega), show ((i + 1 : Nat) : Int) + 1 = ((i + 2 : Nat) : Int) by omega]
                refine ⟨fun h6 => ⟨by omega, ?_⟩, fun h6 => fin n ?_⟩
                · have hf3 := hf0 (i + 2) (by omega)
                  rw [hJ _ (by omega)]
                  refine ⟨fun h7 => ?_, fun h7 => ?_⟩
                  · refine b_Picture_read_116 ⟨fun h8 => absurd rfl h8, fun _ => ⟨by omega, ?_⟩⟩
                    rw [hJ _ (by omega)]
                    refine ⟨fun h8 => ?_, fun h8 => fin _ ?_⟩
                    · rw [w32_id (x := ((i + 2 : Nat) : Int) + 1) (by omega) (by omega), show ((i + 2 : Nat) : Int) + 1 = ((i + 3 : Nat) : Int) by omega]
                      refine hgo false (i + 3) (by omega) (by omega) ?_
                      rw [rtp, if_neg hni, if_neg (fun hh => hh hou), if_neg h2', if_neg (by omega), if_neg h4', if_neg (fun hh => hh h5), if_neg (by omega), if_neg h7, if_pos h8, ← ho]
                    · rw [rtp, if_neg hni, if_neg (fun hh => hh hou), if_neg h2', if_neg (by omega), if_neg h4', if_neg (fun hh => hh h5), if_neg (by omega), if_neg h7, if_neg h8]
                  · refine b_Picture_read_116 ⟨fun _ => ?_, fun h8 => absurd h8 (by decide)⟩
                    rw [w32_id (x := ((i + 2 : Nat) : Int) + 1) (by omega) (by omega), show ((i + 2 : Nat) : Int) + 1 = ((i + 3 : Nat) : Int) by omega]
                    refine hgo true (i + 3) (by omega) (by omega) ?_
                    rw [rtp, if_neg hni, if_neg (fun hh => hh hou), if_neg h2', if_neg (by omega), if_neg h4', if_neg (fun hh => hh h5), if_neg (by omega), if_pos h7, ← ho]
                · rw [rtp, if_neg hni, if_neg (fun hh => hh hou), if_neg h2', if_neg (by omega), if_neg h4', if_neg (fun hh => hh h5), if_pos (by omega)]
            · have h4 := bi0 h4
              refine fin _ ?_
              rw [rtp, if_neg hni, if_neg (fun hh => hh hou), if_neg h2', if_neg (by omega), if_pos (by rw [← ho, h4])]
          · rw [rtp, if_neg hni, if_neg (fun hh => hh hou), if_neg h2', if_pos (by omega)]
        · have h2 := bi0 h2
          refine b_Picture_read_48 (fin _ ?_)
          rw [rtp, if_neg hni, if_neg (fun hh => hh hou), if_pos (by rw [← ho, h2])]
      rw [hJ _ (by omega)]
      refine ⟨by omega, fun h2 => b_Picture_read_24 ⟨fun h3 => absurd rfl h3, fun _ => ⟨by omega, ?_⟩⟩, fun h2 => b_Picture_read_24 ⟨fun _ => at39 true (decide_eq_true h2).symm (Or.inl h2), fun h3 => absurd h3 (by decide)⟩⟩
      rw [hJ _ (by omega)]
      refine ⟨fun h3 => b_Picture_read_48 (fin _ ?_), fun h3 => at39 false (decide_eq_false h2).symm (Or.inr h3)⟩
      rw [rtp, if_neg hni, if_pos (fun hh => hh.elim h2 h3)]
