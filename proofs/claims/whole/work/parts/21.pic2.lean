/-! PICTURES: looking for visits, making them visit by visit -/
/-- cells outside lo .. hi stay -/
def kfr (lo hi : Int) (I I' : KI) : Prop := ∀ a k, (a < lo ∨ hi ≤ a) → I' a k = I a k
theorem kfr.rf (lo hi : Int) (I : KI) : kfr lo hi I I := fun _ _ _ => rfl
theorem kfr.tr {lo hi : Int} {I J K : KI} (h : kfr lo hi I J) (g : kfr lo hi J K) : kfr lo hi I K := fun a k hk => (g a k hk).trans (h a k hk)
theorem kfr.w {lo hi lo' hi' : Int} {I J : KI} (h : kfr lo hi I J) (h1 : lo' ≤ lo) (h2 : hi ≤ hi') : kfr lo' hi' I J := fun a k hk => h a k (by omega)
theorem t_fill {xs : KS} {d : Nat} {r v : Int} {n : Nat} {G : KG} {I : KI} {Q : KQ} (hn : n < 60000) (h : ∀ I' : KI, (∀ a k, I' a k = if a = r ∧ 0 ≤ k ∧ k < n then v else I a k) → Q 0 G I') : kWP xs true (d) 0 0 246 0 [(0, 4, n, r), (1, 0, 0, v)] [] G I Q := by
  refine b_Arrays_fill1_0 ?_
  have key : ∀ (J : KI), (∀ a k, J a k = if a = r ∧ 0 ≤ k ∧ k < ((0 : Nat) : Int) then v else I a k) → kWP xs true (d) 0 0 246 5 [(0, 4, n, r), (1, 0, 0, v), (2, 0, 0, ((0 : Nat) : Int)), (3, 0, 0, (n : Int))] [] G J Q := by
    refine loop_up (n := n) (W := fun i => ∀ (J : KI), (∀ a k, J a k = if a = r ∧ 0 ≤ k ∧ k < (i : Int) then v else I a k) → kWP xs true (d) 0 0 246 5 [(0, 4, n, r), (1, 0, 0, v), (2, 0, 0, (i : Int)), (3, 0, 0, (n : Int))] [] G J Q) ?_ ?_ (Nat.zero_le _)
    · intro J hJ
      exact b_Arrays_fill1_5 ⟨fun _ => h J hJ, fun h1 => by omega⟩
    · intro i hi ih J hJ
      refine b_Arrays_fill1_5 ⟨fun h1 => by omega, fun _ => ⟨⟨by omega, by omega⟩, ?_⟩⟩
      intro J1 hJ1
      rw [w32_id (by omega) (by omega)]
      refine ih J1 (fun a k => ?_)
      rw [hJ1]
      unfold kst
      rw [hJ a k]
      by_cases h1 : a = r ∧ k = i
      · rw [if_pos h1, if_pos (by omega)]
      · rw [if_neg h1]
        by_cases h2 : a = r ∧ 0 ≤ k ∧ k < (i : Int)
        · rw [if_pos h2, if_pos (by omega)]
        · rw [if_neg h2, if_neg (by omega)]
  exact key I (fun a k => by rw [if_neg (by omega)])
theorem bi_inj {a b : Bool} : bi a = bi b ↔ a = b := by cases a <;> cases b <;> simp [bi]
theorem bi_01 (a : Bool) : bi a = 0 ∨ bi a = 1 := by cases a <;> simp [bi]
theorem t_Picture_visitOf {xs : KS} {d : Nat} {p : Int} {c : Nat} {b : Bool} {G : KG} {I : KI} {Q : KQ} {P : Pic} (hP : CPic p P I) (h : Q (plc P c b) G I) : kWP xs true (d + 1) 0 0 42 0 [(0, 13, 0, p), (1, 0, 0, (c : Int)), (2, 0, 0, bi b)] [] G I Q := by
  have hP0 := hP
  obtain ⟨_, hl, _, hm, hc, _, _⟩ := hP
  refine b_Picture_visitOf_0 ?_
  refine loop_up (n := P.1.length) (W := fun j => (∀ i, i < j → (decide (pcx P i = c) && (pov P i == b)) = false) → kWP xs true (d + 1) 0 0 42 2 [(0, 13, 0, p), (1, 0, 0, (c : Int)), (2, 0, 0, bi b), (3, 0, 0, (j : Int))] [] G I Q) ?_ ?_ (Nat.zero_le _) (fun i hi => absurd hi (Nat.not_lt_zero i))
  · intro hi
    refine b_Picture_visitOf_2 ?_
    rw [hm]
    refine ⟨fun _ => ?_, fun h1 => by omega⟩
    unfold plc fnI at h
    rw [fnd_none hi, if_neg (by omega)] at h
    exact h
  · intro j hj ih hi
    have hnext : (decide (pcx P j = c) && (pov P j == b)) = false → kWP xs true (d + 1) 0 0 42 2 [(0, 13, 0, p), (1, 0, 0, (c : Int)), (2, 0, 0, bi b), (3, 0, 0, ((j : Int) + 1))] [] G I Q := fun hf => by
      refine ih (fun i hi2 => ?_)
      by_cases hij : i = j
      · subst hij; exact hf
      · exact hi i (by omega)
    refine b_Picture_visitOf_2 ?_
    rw [hm, (hc j hj).1, w32_id (x := (j : Int) + 1) (by omega) (by omega)]
    refine ⟨fun h1 => by omega, fun _ => ⟨⟨by omega, by omega⟩, fun h1 => hnext ?_, fun h1 => ?_⟩⟩
    · have : ¬ pcx P j = c := by omega
      simp [this]
    · refine t_Picture_isOver hP0 (by omega) ⟨fun h2 => hnext ?_, fun h2 => ?_⟩
      · have : ¬ pov P j = b := fun e => h2 (by rw [e])
        simp [this]
      · unfold plc fnI at h
        have h3 : pcx P j = c := by omega
        have h4 : pov P j = b := bi_inj.mp h2
        have h5 : fnd (fun k => decide (pcx P k = c) && (pov P k == b)) P.1.length = j := fnd_eq hj (by simp [h3, h4]) hi
        rw [h5, if_pos hj] at h
        exact h
/-- whether the crossing may come next -/
def mcm (P : Pic) (c : Int) (b : Bool) : Bool := decide (0 ≤ c) && decide (c ≤ P.2.length) && decide (c < 7) && decide (plc P c.toNat b < 0)
theorem t_Picture_mayCome {xs : KS} {d : Nat} {p : Int} {c : Int} {b : Bool} {G : KG} {I : KI} {Q : KQ} {P : Pic} (hP : CPic p P I) (h : Q (bi (mcm P c b)) G I) : kWP xs true (d + 2) 0 0 43 0 [(0, 13, 0, p), (1, 0, 0, c), (2, 0, 0, bi b)] [] G I Q := by
  refine b_Picture_mayCome_0 ?_
  rw [hP.2.2.1]
  unfold mcm at h
  refine ⟨fun h1 => ?_, fun h1 => ⟨fun h2 => ?_, fun h2 => ⟨fun h3 => ?_, fun h3 => ?_⟩⟩⟩
  · rw [show decide (0 ≤ c) = false from decide_eq_false (by omega)] at h
    simpa [bi] using h
  · rw [show decide (c ≤ (P.2.length : Int)) = false from decide_eq_false (by omega)] at h
    simpa [bi] using h
  · obtain ⟨n, rfl⟩ : ∃ n : Nat, c = n := ⟨c.toNat, by omega⟩
    rw [decide_eq_true h1, decide_eq_true h2, decide_eq_true h3] at h
    simp only [Bool.and_self, Bool.true_and, Int.toNat_natCast] at h
    refine t_Picture_visitOf hP ⟨fun h4 => ?_, fun h4 => ?_⟩
    · rw [decide_eq_false (by omega)] at h; exact h
    · rw [decide_eq_true h4] at h; exact h
  · rw [show decide (c < 7) = false from decide_eq_false (by omega)] at h
    simpa [bi] using h
def amc (P : Pic) (b : Bool) : Bool := (List.range (P.2.length + 1)).any (fun c => mcm P c b)
theorem any_range_false {f : Nat → Bool} {n : Nat} (h : ∀ i, i < n → f i = false) : (List.range n).any f = false := by
  rw [List.any_eq_false]; intro x hx; rw [h x (List.mem_range.mp hx)]; simp
theorem any_range_true {f : Nat → Bool} {n i : Nat} (hi : i < n) (h : f i = true) : (List.range n).any f = true := by
  rw [List.any_eq_true]; exact ⟨i, List.mem_range.mpr hi, h⟩
theorem t_Picture_anyMayCome {xs : KS} {d : Nat} {p : Int} {b : Bool} {G : KG} {I : KI} {Q : KQ} {P : Pic} (hP : CPic p P I) (h : Q (bi (amc P b)) G I) : kWP xs true (d + 3) 0 0 44 0 [(0, 13, 0, p), (1, 0, 0, bi b)] [] G I Q := by
  refine b_Picture_anyMayCome_0 ?_
  refine loop_up (n := P.2.length + 1) (W := fun j => (∀ i, i < j → mcm P i b = false) → kWP xs true (d + 3) 0 0 44 2 [(0, 13, 0, p), (1, 0, 0, bi b), (2, 0, 0, (j : Int))] [] G I Q) ?_ ?_ (Nat.zero_le _) (fun i hi => absurd hi (Nat.not_lt_zero i))
  · intro hi
    refine b_Picture_anyMayCome_2 ?_
    rw [hP.2.2.1]
    refine ⟨fun _ => ?_, fun h1 => by omega⟩
    unfold amc at h
    rw [any_range_false hi] at h
    exact h
  · intro j hj ih hi
    refine b_Picture_anyMayCome_2 ?_
    have hl := hP.1
    rw [hP.2.2.1, w32_id (by omega) (by omega)]
    refine ⟨fun h1 => by omega, fun _ => t_Picture_mayCome hP ⟨fun h1 => ?_, fun h1 => ?_⟩⟩
    · refine ih (fun i hi2 => ?_)
      by_cases hij : i = j
      · subst hij
        cases hb : mcm P i b with
        | false => rfl
        | true => rw [hb] at h1; simp [bi] at h1
      · exact hi i (by omega)
    · unfold amc at h
      rw [any_range_true hj (by
        cases hb : mcm P j b with
        | true => rfl
        | false => rw [hb] at h1; simp [bi] at h1)] at h
      exact h
theorem t_Picture_isWhole {xs : KS} {d : Nat} {p : Int} {G : KG} {I : KI} {Q : KQ} {P : Pic} (hP : CPic p P I) (h : Q (bi (decide (P.1.length = 2 * P.2.length))) G I) : kWP xs true (d) 0 0 45 0 [(0, 13, 0, p)] [] G I Q := by
  refine b_Picture_isWhole_0 ?_
  rw [hP.2.2.1, hP.2.2.2.1, w32_id (by have := hP.1; omega) (by have := hP.1; omega)]
  refine ⟨fun h1 => ?_, fun h1 => ?_⟩
  · rw [decide_eq_false (by omega)] at h; exact h
  · rw [decide_eq_true (by omega)] at h; exact h
