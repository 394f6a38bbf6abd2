/-! SUMS: rings -/
theorem agn_lt' {P : Pic} {k : Nat} (hk : k < P.1.length) : agn P k < P.1.length := by
  unfold agn
  simp only
  split
  · assumption
  · exact hk
/-- the object of sums at p has the picture's arcs -/
def CCut (p : Int) (P : Pic) (I : KI) : Prop :=
  P.2.length ≤ 7 ∧ P.1.length ≤ 14 ∧ I p 4 = (P.2.length : Int) ∧ I p 5 = (P.1.length : Int) ∧ ∀ k, k < P.1.length → I (p + 2) k = (pcx P k : Int) ∧ pcx P k < 7 ∧ I (p + 3) k = (agn P k : Int)
def rgv (m : Nat) (S : Nat × Bool) : Nat := if S.2 then (if S.1 + 1 < m then S.1 + 1 else 0) else S.1
/-- a step on a ring: arc, and whether along the cord -/
def rgs (P : Pic) (g : Nat) (S : Nat × Bool) : Nat × Bool :=
  let v := rgv P.1.length S
  let on := if g.testBit (pcx P v) then S.2 else !S.2
  (if on then agn P v else if 0 < agn P v then agn P v - 1 else P.1.length - 1, on)
def rgw (P : Pic) (g a : Nat) : Nat → Nat × Bool
  | 0 => (a, true)
  | k + 1 => rgs P g (rgw P g a k)
def rgm (P : Pic) (g a : Nat) : Nat → Nat
  | 0 => 0
  | k + 1 => rgm P g a k ||| 2 ^ (rgw P g a k).1
def rgn (P : Pic) (g a : Nat) : Nat := min (fnd (fun k => decide ((rgw P g a (k + 1)).1 = a)) P.1.length + 1) P.1.length
def rgg (P : Pic) (g a : Nat) : Nat := rgm P g a (rgn P g a)
theorem rgv_lt {m : Nat} {S : Nat × Bool} (h : S.1 < m) : rgv m S < m := by
  unfold rgv
  split
  · split
    · assumption
    · omega
  · exact h
theorem rgs_lt {P : Pic} {g : Nat} {S : Nat × Bool} (h : S.1 < P.1.length) : (rgs P g S).1 < P.1.length := by
  have h1 := agn_lt' (rgv_lt h)
  have e : (rgs P g S).1 = if (if g.testBit (pcx P (rgv P.1.length S)) then S.2 else !S.2) = true then agn P (rgv P.1.length S) else if 0 < agn P (rgv P.1.length S) then agn P (rgv P.1.length S) - 1 else P.1.length - 1 := rfl
  rw [e]
  generalize (if g.testBit (pcx P (rgv P.1.length S)) then S.2 else !S.2) = b
  cases b
  · rw [if_neg (by simp)]; split <;> omega
  · rw [if_pos rfl]; exact h1
theorem rgw_lt {P : Pic} {g a : Nat} (h : a < P.1.length) : ∀ k, (rgw P g a k).1 < P.1.length
  | 0 => h
  | k + 1 => rgs_lt (rgw_lt h k)
theorem rgm_lt {P : Pic} {g a : Nat} (h : a < P.1.length) : ∀ k, rgm P g a k < 2 ^ P.1.length
  | 0 => by unfold rgm; exact Nat.two_pow_pos _
  | k + 1 => by unfold rgm; exact Nat.or_lt_two_pow (rgm_lt h k) (Nat.pow_lt_pow_right (by omega) (rgw_lt h k))
theorem p14 {m x : Nat} (hm : m ≤ 14) (hx : x < 2 ^ m) : x < 16384 := Nat.lt_of_lt_of_le hx (Nat.pow_le_pow_right (n := 2) (by omega) hm)
theorem t_Sums_ring {xs : KS} {d : Nat} {p : Int} {g a : Nat} {P : Pic} {G : KG} {I : KI} {Q : KQ} (hP : CCut p P I) (hg : g < 128) (ha : a < P.1.length) (h : Q (rgg P g a : Int) G I) : kWP xs true (d) 0 0 78 0 [(0, 16, 0, p), (1, 0, 0, (g : Int)), (2, 0, 0, (a : Int))] [] G I Q := by
  obtain ⟨_, hm, h4, h5, hc⟩ := hP
  refine b_Sums_ring_0 ?_
  refine loop_up (n := P.1.length) (W := fun j => (∀ i, i < j → (rgw P g a (i + 1)).1 ≠ a) → kWP xs true (d) 0 0 78 11 [(0, 16, 0, p), (1, 0, 0, (g : Int)), (2, 0, 0, (a : Int)), (3, 0, 0, (rgm P g a j : Int)), (4, 0, 0, ((rgw P g a j).1 : Int)), (5, 0, 0, bi (rgw P g a j).2), (6, 0, 0, (j : Int))] [] G I Q) ?_ ?_ (Nat.zero_le _) (fun i hi => absurd hi (Nat.not_lt_zero i))
  · intro hi
    refine b_Sums_ring_11 ⟨fun _ => ?_, fun h1 => by omega⟩
    have e : rgn P g a = P.1.length := by
      unfold rgn
      rw [fnd_none (fun i hi2 => decide_eq_false (hi i hi2))]
      omega
    unfold rgg at h
    rw [e] at h
    exact h
  · intro j hj ih hi
    have hw := rgw_lt (g := g) ha j
    have hmm := p14 hm (rgm_lt (g := g) ha j)
    have hmm1 := p14 hm (rgm_lt (g := g) ha (j + 1))
    have hstop : (rgw P g a (j + 1)).1 = a → Q (rgm P g a (j + 1) : Int) G I := fun e => by
      have e2 : rgn P g a = j + 1 := by
        unfold rgn
        rw [fnd_eq hj (decide_eq_true e) (fun i hi2 => decide_eq_false (hi i hi2))]
        omega
      unfold rgg at h
      rw [e2] at h
      exact h
    have hgo : (rgw P g a (j + 1)).1 ≠ a → kWP xs true (d) 0 0 78 11 [(0, 16, 0, p), (1, 0, 0, (g : Int)), (2, 0, 0, (a : Int)), (3, 0, 0, (rgm P g a (j + 1) : Int)), (4, 0, 0, ((rgw P g a (j + 1)).1 : Int)), (5, 0, 0, bi (rgw P g a (j + 1)).2), (6, 0, 0, ((j + 1 : Nat) : Int))] [] G I Q := fun hne => by
      refine ih (fun i hi2 => ?_)
      by_cases hij : i = j
      · subst hij; exact hne
      · exact hi i (by omega)
    have hw1 := rgw_lt (g := g) ha (j + 1)
    have eS : rgw P g a (j + 1) = rgs P g (rgw P g a j) := rfl
    have eM : rgm P g a (j + 1) = rgm P g a j ||| 2 ^ (rgw P g a j).1 := rfl
    have at56 : ∀ v : Nat, v = rgv P.1.length (rgw P g a j) → kWP xs true (d) 0 0 78 56 [(0, 16, 0, p), (1, 0, 0, (g : Int)), (2, 0, 0, (a : Int)), (3, 0, 0, (kior (rgm P g a j : Int) (kishl 1 ((rgw P g a j).1 : Int)))), (5, 0, 0, bi (rgw P g a j).2), (6, 0, 0, (j : Int))] [(0, 0, (v : Int))] G I Q := by
      intro v hv
      have hvl : v < P.1.length := by rw [hv]; exact rgv_lt hw
      have hcv := hc v hvl
      have hav := agn_lt' hvl
      rw [kishl_n (by omega), kior_n (by omega) (Nat.lt_of_lt_of_le (Nat.pow_lt_pow_right (by omega) (show (rgw P g a j).1 < 31 by omega)) (by decide)), ← eM]
      unfold rgs at eS
      simp only at eS
      rw [← hv] at eS
      refine b_Sums_ring_56 ⟨by omega, by omega, ?_⟩
      rw [hcv.1, hcv.2.2, h5, kbit_n (by omega) (by omega), w32_id (x := ((P.1.length : Nat) : Int) - 1) (by omega) (by omega), w32_id (x := (j : Int) + 1) (by omega) (by omega), w32_id (x := (agn P v : Int) - 1) (by omega) (by omega)]
      have fin : ∀ (w : Nat) (b : Bool), rgw P g a (j + 1) = (w, b) → ((w : Int) ≠ (a : Int) → kWP xs true (d) 0 0 78 11 [(0, 16, 0, p), (1, 0, 0, (g : Int)), (2, 0, 0, (a : Int)), (3, 0, 0, (rgm P g a (j + 1) : Int)), (4, 0, 0, (w : Int)), (5, 0, 0, bi b), (6, 0, 0, ((j : Int) + 1))] [] G I Q) ∧ ((w : Int) = (a : Int) → Q (rgm P g a (j + 1) : Int) G I) := by
        intro w b e
        rw [e] at hgo hstop
        exact ⟨fun h1 => hgo (by omega), fun h1 => hstop (by omega)⟩
      have pre : ∀ b : Bool, b = (if g.testBit (pcx P v) then (rgw P g a j).2 else !(rgw P g a j).2) → rgw P g a (j + 1) = (if b then agn P v else if 0 < agn P v then agn P v - 1 else P.1.length - 1, b) := fun b hb => by rw [eS, ← hb]
      have hT : (if g.testBit (pcx P v) = true then (1 : Int) else 0) ≠ 0 → g.testBit (pcx P v) = true := fun hh => by
        cases hb : g.testBit (pcx P v) with
        | true => rfl
        | false => rw [hb] at hh; simp at hh
      have hF : (if g.testBit (pcx P v) = true then (1 : Int) else 0) = 0 → g.testBit (pcx P v) = false := fun hh => by
        cases hb : g.testBit (pcx P v) with
        | false => rfl
        | true => rw [hb] at hh; simp at hh
      refine ⟨fun h1 => ⟨fun h2 => ⟨fun h3 => ?_, fun h3 => ?_⟩, fun h2 => ?_⟩, fun h1 => ⟨fun h2 => b_Sums_ring_91 ⟨fun _ => ?_, fun hh => absurd rfl hh⟩, fun h2 => b_Sums_ring_91 ⟨fun hh => absurd hh (by decide), fun _ => ?_⟩⟩⟩
      · have q := fin (P.1.length - 1) false (by rw [pre false (by rw [if_pos (hT h1), bi0 h2]), if_neg (by simp), if_neg (by omega)])
        rw [show ((P.1.length - 1 : Nat) : Int) = (P.1.length : Int) - 1 by omega] at q
        rw [bi0 h2]; exact q
      · have q := fin (agn P v - 1) false (by rw [pre false (by rw [if_pos (hT h1), bi0 h2]), if_neg (by simp), if_pos (by omega)])
        rw [show ((agn P v - 1 : Nat) : Int) = (agn P v : Int) - 1 by omega] at q
        rw [bi0 h2]; exact q
      · have q := fin (agn P v) true (by rw [pre true (by rw [if_pos (hT h1), bi1 h2]), if_pos rfl])
        rw [bi1 h2]; exact q
      · have hp := pre false (by rw [if_neg (by rw [hF h1]; simp), bi1 h2]; rfl)
        rw [h5, w32_id (x := ((P.1.length : Nat) : Int) - 1) (by omega) (by omega), w32_id (x := (j : Int) + 1) (by omega) (by omega), w32_id (x := (agn P v : Int) - 1) (by omega) (by omega)]
        refine ⟨fun h3 => ?_, fun h3 => ?_⟩
        · have q := fin (P.1.length - 1) false (by rw [hp, if_neg (by simp), if_neg (by omega)])
          rw [show ((P.1.length - 1 : Nat) : Int) = (P.1.length : Int) - 1 by omega] at q
          exact q
        · have q := fin (agn P v - 1) false (by rw [hp, if_neg (by simp), if_pos (by omega)])
          rw [show ((agn P v - 1 : Nat) : Int) = (agn P v : Int) - 1 by omega] at q
          exact q
      · have hp := pre true (by rw [if_neg (by rw [hF h1]; simp), bi0 h2]; rfl)
        rw [w32_id (x := (j : Int) + 1) (by omega) (by omega)]
        exact fin (agn P v) true (by rw [hp, if_pos rfl])
    refine b_Sums_ring_11 ⟨fun h1 => by omega, fun _ => ?_⟩
    rw [h5]
    cases hb : (rgw P g a j).2 with
    | true =>
      rw [hb] at at56
      refine ⟨fun _ => ⟨fun h2 => at56 0 ?_, fun h2 => ?_⟩, fun h1 => absurd h1 (by decide)⟩
      · rw [w32_id (by omega) (by omega)] at h2
        unfold rgv; rw [hb, if_pos rfl, if_neg (by omega)]
      · rw [w32_id (by omega) (by omega)] at h2 ⊢
        refine at56 ((rgw P g a j).1 + 1) ?_
        unfold rgv; rw [hb, if_pos rfl, if_pos (by omega)]
    | false =>
      rw [hb] at at56
      refine ⟨fun h1 => absurd rfl h1, fun _ => at56 _ ?_⟩
      unfold rgv; rw [hb]; rfl
/-- rings of a way of cutting, from arc j with the arcs of a mask gone -/
def rgc (P : Pic) (g : Nat) : Nat → Nat × Nat
  | 0 => (0, 0)
  | j + 1 => let S := rgc P g j; if S.1.testBit j then S else (S.1 ||| rgg P g j, S.2 + 1)
def rings (P : Pic) (g : Nat) : Nat := if P.1.length = 0 then 1 else (rgc P g P.1.length).2
theorem rgg_lt {P : Pic} {g a : Nat} (h : a < P.1.length) : rgg P g a < 2 ^ P.1.length := rgm_lt h _
theorem rgc_lt {P : Pic} {g : Nat} : ∀ j, j ≤ P.1.length → (rgc P g j).1 < 2 ^ P.1.length ∧ (rgc P g j).2 ≤ j
  | 0, _ => ⟨Nat.two_pow_pos _, Nat.le_refl 0⟩
  | j + 1, h => by
    have ih := rgc_lt (P := P) (g := g) j (by omega)
    unfold rgc
    simp only
    split
    · exact ⟨ih.1, by omega⟩
    · exact ⟨Nat.or_lt_two_pow ih.1 (rgg_lt (by omega)), by show (rgc P g j).2 + 1 ≤ j + 1; omega⟩
theorem t_Sums_ringsOf {xs : KS} {d : Nat} {p : Int} {g : Nat} {P : Pic} {G : KG} {I : KI} {Q : KQ} (hP : CCut p P I) (hg : g < 128) (h : Q (rings P g : Int) G I) : kWP xs true (d + 1) 0 0 77 0 [(0, 16, 0, p), (1, 0, 0, (g : Int))] [] G I Q := by
  have hP0 := hP
  obtain ⟨_, hm, h4, h5, hc⟩ := hP
  refine b_Sums_ringsOf_0 ?_
  rw [h5]
  unfold rings at h
  refine ⟨fun h1 => ?_, fun h1 => ?_⟩
  · rw [if_neg (by omega)] at h
    refine loop_up (n := P.1.length) (W := fun j => kWP xs true (d + 1) 0 0 77 16 [(0, 16, 0, p), (1, 0, 0, (g : Int)), (2, 0, 0, ((rgc P g j).1 : Int)), (3, 0, 0, ((rgc P g j).2 : Int)), (4, 0, 0, (j : Int))] [] G I Q) ?_ ?_ (Nat.zero_le _)
    · refine b_Sums_ringsOf_16 ⟨fun _ => h, fun h2 => by omega⟩
    · intro j hj ih
      have hl := rgc_lt (P := P) (g := g) j (by omega)
      have hl1 := p14 hm hl.1
      have e : rgc P g (j + 1) = if (rgc P g j).1.testBit j then rgc P g j else ((rgc P g j).1 ||| rgg P g j, (rgc P g j).2 + 1) := rfl
      refine b_Sums_ringsOf_16 ⟨fun h2 => by omega, fun _ => ?_⟩
      rw [kbit_n (by omega) (by omega), w32_id (x := (j : Int) + 1) (by omega) (by omega)]
      cases hb : (rgc P g j).1.testBit j with
      | true =>
        rw [e, hb, if_pos rfl] at ih
        exact ⟨fun h2 => by simp at h2, fun _ => ih⟩
      | false =>
        rw [e, hb, if_neg (by simp)] at ih
        refine ⟨fun _ => t_Sums_ring hP0 hg hj ?_, fun h2 => by simp at h2⟩
        have hr := p14 hm (rgg_lt (g := g) hj)
        rw [kior_n (by omega) (by omega), w32_id (x := ((rgc P g j).2 : Int) + 1) (by omega) (by omega)]
        exact ih
  · rw [if_pos (by omega)] at h
    exact h
