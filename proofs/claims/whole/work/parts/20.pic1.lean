/-! PICTURES, abstractly: visits (crossing, over), signs (plus) -/
abbrev Pic : Type := List (Nat × Bool) × List Bool
def pcx (P : Pic) (k : Nat) : Nat := (P.1.getD k (0, false)).1
def pov (P : Pic) (k : Nat) : Bool := (P.1.getD k (0, false)).2
def psg (P : Pic) (c : Nat) : Bool := P.2.getD c false
def bi (b : Bool) : Int := if b then 1 else 0
/-- the class's picture at p -/
def CPic (p : Int) (P : Pic) (I : KI) : Prop :=
  P.2.length ≤ 7 ∧ P.1.length ≤ 14 ∧ I p 4 = (P.2.length : Int) ∧ I p 5 = (P.1.length : Int) ∧ (∀ k, k < P.1.length → I (p + 1) k = (pcx P k : Int) ∧ pcx P k < 7) ∧
  (∃ o : Nat, I p 6 = (o : Int) ∧ o < 16384 ∧ ∀ k, k < 14 → o.testBit k = pov P k) ∧ (∃ s : Nat, I p 7 = (s : Int) ∧ s < 128 ∧ ∀ c, c < 7 → s.testBit c = psg P c)
/-- the least k below n with f, else n -/
def fnd (f : Nat → Bool) : Nat → Nat
  | 0 => 0
  | n + 1 => if fnd f n < n then fnd f n else if f n then n else n + 1
theorem fnd_le (f : Nat → Bool) : ∀ n, fnd f n ≤ n
  | 0 => Nat.le_refl 0
  | n + 1 => by
    have := fnd_le f n
    unfold fnd
    split
    · omega
    · split <;> omega
theorem fnd_none {f : Nat → Bool} : ∀ {n}, (∀ j, j < n → f j = false) → fnd f n = n
  | 0, _ => rfl
  | n + 1, h => by
    have := fnd_none (n := n) (fun j hj => h j (by omega))
    unfold fnd
    rw [if_neg (by omega), h n (by omega)]
    rfl
theorem fnd_eq {f : Nat → Bool} {k : Nat} : ∀ {n}, k < n → f k = true → (∀ j, j < k → f j = false) → fnd f n = k
  | 0, h, _, _ => by omega
  | n + 1, h, h1, h2 => by
    unfold fnd
    by_cases hk : k = n
    · subst hk
      rw [fnd_none h2, if_neg (by omega), if_pos h1]
    · rw [fnd_eq (n := n) (by omega) h1 h2, if_pos (by omega)]
theorem fnd_spec {f : Nat → Bool} : ∀ {n}, fnd f n < n → f (fnd f n) = true
  | 0, h => by omega
  | n + 1, h => by
    unfold fnd at h ⊢
    by_cases h1 : fnd f n < n
    · rw [if_pos h1]; exact fnd_spec h1
    · rw [if_neg h1] at h ⊢
      by_cases h2 : f n = true
      · rw [if_pos h2]; exact h2
      · rw [if_neg h2] at h; omega
theorem fnd_min {f : Nat → Bool} : ∀ {n j}, j < fnd f n → f j = false
  | 0, j, h => by unfold fnd at h; omega
  | n + 1, j, h => by
    have hl := fnd_le f n
    unfold fnd at h
    by_cases h1 : fnd f n < n
    · rw [if_pos h1] at h; exact fnd_min h
    · rw [if_neg h1] at h
      have hn : fnd f n = n := by omega
      by_cases hj : j < n
      · exact fnd_min (n := n) (by omega)
      · by_cases h2 : f n = true
        · rw [if_pos h2] at h; omega
        · rw [if_neg h2] at h
          have : j = n := by omega
          subst this
          simpa using h2
/-- an index, or -1 -/
def fnI (f : Nat → Bool) (n : Nat) : Int := if fnd f n < n then (fnd f n : Int) else -1
def plc (P : Pic) (c : Nat) (b : Bool) : Int := fnI (fun k => decide (pcx P k = c) && (pov P k == b)) P.1.length
theorem t_Picture_isOver {xs : KS} {d : Nat} {p : Int} {k : Nat} {G : KG} {I : KI} {Q : KQ} {P : Pic} (hP : CPic p P I) (hk : k < 14) (h : Q (bi (pov P k)) G I) : kWP xs true (d) 0 0 35 0 [(0, 13, 0, p), (1, 0, 0, (k : Int))] [] G I Q := by
  obtain ⟨_, _, _, _, _, ⟨o, ho, ho1, ho2⟩, _⟩ := hP
  refine b_Picture_isOver_0 ?_
  rw [ho, kbit_n (by omega) (by omega), ho2 k hk]
  cases hb : pov P k <;> rw [hb] at h <;> simp [bi] at h ⊢ <;> exact h
theorem t_Picture_isPlus {xs : KS} {d : Nat} {p : Int} {c : Nat} {G : KG} {I : KI} {Q : KQ} {P : Pic} (hP : CPic p P I) (hk : c < 7) (h : Q (bi (psg P c)) G I) : kWP xs true (d) 0 0 36 0 [(0, 13, 0, p), (1, 0, 0, (c : Int))] [] G I Q := by
  obtain ⟨_, _, _, _, _, _, ⟨s, hs, hs1, hs2⟩⟩ := hP
  refine b_Picture_isPlus_0 ?_
  rw [hs, kbit_n (by omega) (by omega), hs2 c hk]
  cases hb : psg P c <;> rw [hb] at h <;> simp [bi] at h ⊢ <;> exact h
theorem t_Picture_ways {xs : KS} {d : Nat} {p : Int} {G : KG} {I : KI} {Q : KQ} {P : Pic} (hP : CPic p P I) (h : Q ((2 ^ P.2.length : Nat) : Int) G I) : kWP xs true (d) 0 0 37 0 [(0, 13, 0, p)] [] G I Q := by
  refine b_Picture_ways_0 ?_
  rw [hP.2.2.1, kishl_n (by have := hP.1; omega)]
  exact h
theorem t_Picture_after {xs : KS} {d : Nat} {p k : Int} {G : KG} {I : KI} {Q : KQ} {m : Nat} (hP : I p 5 = (m : Int)) (hm : m ≤ 14) (hk : -1 ≤ k ∧ k < 14) (h : Q (if k + 1 < (m : Int) then k + 1 else 0) G I) : kWP xs true (d) 0 0 39 0 [(0, 13, 0, p), (1, 0, 0, k)] [] G I Q := by
  refine b_Picture_after_0 ?_
  rw [hP, w32_id (by omega) (by omega)]
  refine ⟨fun h1 => ?_, fun h1 => ?_⟩
  · rw [if_neg (by omega)] at h; exact h
  · rw [if_pos h1] at h; exact h
theorem t_Picture_before {xs : KS} {d : Nat} {p k : Int} {G : KG} {I : KI} {Q : KQ} {m : Nat} (hP : I p 5 = (m : Int)) (hm : m ≤ 14) (hk : 0 ≤ k ∧ k < 14) (h : Q (if 0 < k then k - 1 else (m : Int) - 1) G I) : kWP xs true (d) 0 0 40 0 [(0, 13, 0, p), (1, 0, 0, k)] [] G I Q := by
  refine b_Picture_before_0 ?_
  rw [hP, w32_id (x := k - 1) (by omega) (by omega), w32_id (by omega) (by omega)]
  refine ⟨fun h1 => ?_, fun h1 => ?_⟩
  · rw [if_neg (by omega)] at h; exact h
  · rw [if_pos h1] at h; exact h
/-- again: the other visit of the same crossing, or itself -/
def agn (P : Pic) (k : Nat) : Nat := let r := fnd (fun j => decide (j ≠ k) && decide (pcx P j = pcx P k)) P.1.length; if r < P.1.length then r else k
theorem t_Picture_again {xs : KS} {d : Nat} {p : Int} {k : Nat} {G : KG} {I : KI} {Q : KQ} {P : Pic} (hP : CPic p P I) (hk : k < P.1.length) (h : Q (agn P k : Int) G I) : kWP xs true (d) 0 0 41 0 [(0, 13, 0, p), (1, 0, 0, (k : Int))] [] G I Q := by
  obtain ⟨_, hl, _, hm, hc, _, _⟩ := hP
  refine b_Picture_again_0 ?_
  refine loop_up (n := P.1.length) (W := fun j => (∀ i, i < j → (decide (i ≠ k) && decide (pcx P i = pcx P k)) = false) → kWP xs true (d) 0 0 41 2 [(0, 13, 0, p), (1, 0, 0, (k : Int)), (2, 0, 0, (j : Int))] [] G I Q) ?_ ?_ (Nat.zero_le _) (fun i hi => absurd hi (Nat.not_lt_zero i))
  · intro hi
    refine b_Picture_again_2 ?_
    rw [hm]
    refine ⟨fun _ => ?_, fun h1 => by omega⟩
    unfold agn at h
    rw [fnd_none hi, if_neg (by omega)] at h
    exact h
  · intro j hj ih hi
    refine b_Picture_again_2 ?_
    rw [hm, (hc j hj).1, (hc k hk).1, w32_id (by omega) (by omega)]
    refine ⟨fun h1 => by omega, fun _ => ⟨fun h1 => ?_, fun h1 => ⟨⟨by omega, by omega⟩, ⟨by omega, by omega⟩, fun h2 => ?_, fun h2 => ?_⟩⟩⟩
    · refine ih (fun i hi2 => ?_)
      by_cases hij : i = j
      · subst hij
        have : i = k := by omega
        simp [this]
      · exact hi i (by omega)
    · refine ih (fun i hi2 => ?_)
      by_cases hij : i = j
      · subst hij
        have : ¬ pcx P i = pcx P k := by omega
        simp [this]
      · exact hi i (by omega)
    · unfold agn at h
      have h5 : fnd (fun j => decide (j ≠ k) && decide (pcx P j = pcx P k)) P.1.length = j := by
        refine fnd_eq hj ?_ hi
        have h3 : j ≠ k := by omega
        have h4 : pcx P j = pcx P k := by omega
        simp [h3, h4]
      rw [h5, if_pos hj] at h
      exact h
