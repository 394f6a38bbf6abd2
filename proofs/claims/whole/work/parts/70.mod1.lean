/-! THE MODEL: pictures kept and at hand -/
theorem kzr_bi {b : Bool} {p : Prop} (h : p) : kzr (bi b) p := by cases b <;> exact h
theorem klcmp_lt {a b : Int} : klcmp a b < 0 ↔ a < b := by unfold klcmp; split <;> (try split) <;> omega
theorem klcmp_gt {a b : Int} : 0 < klcmp a b ↔ b < a := by unfold klcmp; split <;> (try split) <;> omega
theorem t_M_within {xs : KS} {d : Nat} {v a b : Int} {G : KG} {I : KI} {Q : KQ} (h : Q (bi (decide (a ≤ v ∧ v ≤ b))) G I) : kWP xs true (d) 0 0 143 0 [(0, 1, 0, v), (2, 1, 0, a), (4, 1, 0, b)] [] G I Q := by
  refine b_M_within_0 ⟨fun h1 => ?_, fun h1 => ⟨fun h2 => ?_, fun h2 => ?_⟩⟩
  · have := klcmp_lt.mp h1
    rw [decide_eq_false (by omega)] at h; exact h
  · have := klcmp_gt.mp h2
    rw [decide_eq_false (by omega)] at h; exact h
  · have n1 : ¬ v < a := fun hh => by have := klcmp_lt.mpr hh; omega
    have n2 : ¬ b < v := fun hh => by have := klcmp_gt.mpr hh; omega
    rw [decide_eq_true (by omega)] at h; exact h
def sgi (b : Bool) : Int := if b then 1 else -1
theorem sgi_b (b : Bool) : -1 ≤ sgi b ∧ sgi b ≤ 1 := by cases b <;> unfold sgi <;> simp
/-- pictures kept -/
def MPs (ps : List Pic) (I : KI) : Prop := I 101 0 = (ps.length : Int) ∧ ps.length ≤ 12 ∧ ∀ i : Nat, i < ps.length → (pget ps i).2.length ≤ 7 ∧ (pget ps i).1.length = 2 * (pget ps i).2.length ∧ I 102 (i : Int) = ((pget ps i).2.length : Int) ∧
  (∀ k : Nat, k < (pget ps i).1.length → I 103 ((14 * i + k : Nat) : Int) = (pcx (pget ps i) k : Int) ∧ I 104 ((14 * i + k : Nat) : Int) = bi (pov (pget ps i) k)) ∧ ∀ c : Nat, c < (pget ps i).2.length → I 105 ((7 * i + c : Nat) : Int) = sgi (psg (pget ps i) c)
/-- the picture at hand -/
def MHd (P : Pic) (I : KI) : Prop := P.2.length ≤ 7 ∧ P.1.length = 2 * P.2.length ∧ I 101 5 = (P.2.length : Int) ∧ (∀ k : Nat, k < P.1.length → I 106 (k : Int) = (pcx P k : Int) ∧ I 107 (k : Int) = bi (pov P k)) ∧ ∀ c : Nat, c < P.2.length → I 108 (c : Int) = sgi (psg P c)
/-- only the picture at hand may change -/
def hfr (I I' : KI) : Prop := ∀ a k, ¬ (a = 101 ∧ k = 5) → ¬ (106 ≤ a ∧ a ≤ 108) → I' a k = I a k
theorem MPs.fr {ps : List Pic} {I J : KI} (h : MPs ps I) (hf : ∀ a k, (a = 101 ∧ k = 0) ∨ (102 ≤ a ∧ a ≤ 105) → J a k = I a k) : MPs ps J := by
  obtain ⟨h1, h2, h3⟩ := h
  refine ⟨by rw [hf _ _ (by omega)]; exact h1, h2, fun i hi => ?_⟩
  obtain ⟨a, b, c, e, g⟩ := h3 i hi
  exact ⟨a, b, by rw [hf _ _ (by omega)]; exact c, fun k hk => by rw [hf _ _ (by omega), hf _ _ (by omega)]; exact e k hk, fun k hk => by rw [hf _ _ (by omega)]; exact g k hk⟩
theorem MHd.fr {P : Pic} {I J : KI} (h : MHd P I) (hf : ∀ a k, (a = 101 ∧ k = 5) ∨ (106 ≤ a ∧ a ≤ 108) → J a k = I a k) : MHd P J := by
  obtain ⟨a, b, c, e, g⟩ := h
  exact ⟨a, b, by rw [hf _ _ (by omega)]; exact c, fun k hk => by rw [hf _ _ (by omega), hf _ _ (by omega)]; exact e k hk, fun k hk => by rw [hf _ _ (by omega)]; exact g k hk⟩
theorem t_M_isPicture {xs : KS} {d : Nat} {p : Int} {n : Nat} {G : KG} {I : KI} {Q : KQ} (hn : I 101 0 = (n : Int)) (h12 : n ≤ 12) (h : Q (bi (decide (0 ≤ p ∧ p < n))) G I) : kWP xs true (d + 1) 0 0 145 0 [(0, 19, 0, 101), (1, 0, 0, p)] [] G I Q := by
  refine b_M_isPicture_0 (t_M_within (kzr_bi ?_))
  rw [hn, w32_id (by omega) (by omega)]
  have e : decide (0 ≤ p ∧ p ≤ (n : Int) - 1) = decide (0 ≤ p ∧ p < (n : Int)) := by
    by_cases hp : 0 ≤ p ∧ p < (n : Int)
    · rw [decide_eq_true hp, decide_eq_true (by omega)]
    · rw [decide_eq_false hp, decide_eq_false (by omega)]
  rw [e]; exact h
theorem t_M_takesUp {xs : KS} {d i : Nat} {ps : List Pic} {G : KG} {I : KI} {Q : KQ} (hS : MPs ps I) (hi : i < ps.length) (h : ∀ I' : KI, MHd (pget ps i) I' → hfr I I' → Q 0 G I') : kWP xs true (d) 0 0 146 0 [(0, 19, 0, 101), (1, 0, 0, (i : Int))] [] G I Q := by
  have h12 := hS.2.1
  obtain ⟨a7, a2, an, av, as⟩ := hS.2.2 i hi
  refine b_M_takesUp_0 ⟨by omega, fun J0 e0 => ?_⟩
  rw [an] at e0
  have step : ∀ J : KI, J 101 5 = ((pget ps i).2.length : Int) → (∀ k : Nat, k < (pget ps i).1.length → J 106 (k : Int) = (pcx (pget ps i) k : Int) ∧ J 107 (k : Int) = bi (pov (pget ps i) k)) → hfr I J → kWP xs true (d) 0 0 146 64 [(0, 19, 0, 101), (1, 0, 0, (i : Int)), (2, 0, 0, ((0 : Nat) : Int))] [] G J Q := by
    intro J h5 hv hf
    refine loop_up (n := (pget ps i).2.length) (W := fun c => ∀ J : KI, J 101 5 = ((pget ps i).2.length : Int) → (∀ k : Nat, k < (pget ps i).1.length → J 106 (k : Int) = (pcx (pget ps i) k : Int) ∧ J 107 (k : Int) = bi (pov (pget ps i) k)) → (∀ e : Nat, e < c → J 108 (e : Int) = sgi (psg (pget ps i) e)) → hfr I J → kWP xs true (d) 0 0 146 64 [(0, 19, 0, 101), (1, 0, 0, (i : Int)), (2, 0, 0, (c : Int))] [] G J Q) ?_ ?_ (Nat.zero_le _) J h5 hv (fun e he => absurd he (Nat.not_lt_zero e)) hf
    · intro J h5 hv hs hf
      refine b_M_takesUp_64 ?_
      rw [h5]
      exact ⟨fun _ => h J ⟨a7, a2, h5, hv, hs⟩ hf, fun hh => by omega⟩
    · intro c hc ih J h5 hv hs hf
      refine b_M_takesUp_64 ?_
      rw [h5, w32_id (x := 7 * (i : Int)) (by omega) (by omega), w32_id (x := 7 * (i : Int) + (c : Int)) (by omega) (by omega), w32_inc (by omega)]
      refine ⟨fun hh => by omega, fun _ => ⟨by omega, by omega, fun J1 e1 => ih J1 (by rw [e1, kst_n (by omega)]; exact h5) (fun k hk => by rw [e1, kst_n (by omega), kst_n (by omega)]; exact hv k hk) (fun e he => ?_) (fun a k n1 n2 => by rw [e1, kst_n (by omega)]; exact hf a k n1 n2)⟩⟩
      rw [e1]
      by_cases hec : e = c
      · rw [hec, kst_s, hf _ _ (by omega) (by omega), show 7 * (i : Int) + (c : Int) = ((7 * i + c : Nat) : Int) by omega]
        exact as c hc
      · rw [kst_n (by omega)]; exact hs e (by omega)
  refine loop_up (n := (pget ps i).1.length) (W := fun j => ∀ J : KI, J 101 5 = ((pget ps i).2.length : Int) → (∀ k : Nat, k < j → J 106 (k : Int) = (pcx (pget ps i) k : Int) ∧ J 107 (k : Int) = bi (pov (pget ps i) k)) → hfr I J → kWP xs true (d) 0 0 146 12 [(0, 19, 0, 101), (1, 0, 0, (i : Int)), (2, 0, 0, (j : Int))] [] G J Q) ?_ ?_ (Nat.zero_le _) J0 (by rw [e0, kst_s]) (fun k hk => absurd hk (Nat.not_lt_zero k)) (fun a k n1 n2 => by rw [e0, kst_n (by omega)])
  · intro J h5 hv hf
    refine b_M_takesUp_12 ?_
    rw [h5, w32_id (x := 2 * ((pget ps i).2.length : Int)) (by omega) (by omega)]
    exact ⟨fun _ => step J h5 hv hf, fun hh => by omega⟩
  · intro j hj ih J h5 hv hf
    refine b_M_takesUp_12 ?_
    rw [h5, w32_id (x := 2 * ((pget ps i).2.length : Int)) (by omega) (by omega), w32_id (x := 14 * (i : Int)) (by omega) (by omega), w32_id (x := 14 * (i : Int) + (j : Int)) (by omega) (by omega), w32_inc (by omega), show 14 * (i : Int) + (j : Int) = ((14 * i + j : Nat) : Int) by omega]
    refine ⟨fun hh => by omega, fun _ => ⟨by omega, by omega, fun J1 e1 => ⟨by omega, by omega, ?_⟩⟩⟩
    have g4 : J1 104 ((14 * i + j : Nat) : Int) = bi (pov (pget ps i) j) := by rw [e1, kst_n (by omega), hf _ _ (by omega) (by omega)]; exact (av j hj).2
    rw [hf _ _ (by omega) (by omega), (av j hj).1] at e1
    rw [g4]
    refine kzr_bi (fun J2 e2 => ih J2 (by rw [e2, kst_n (by omega), e1, kst_n (by omega)]; exact h5) (fun k hk => ?_) (fun a k n1 n2 => by rw [e2, kst_n (by omega), e1, kst_n (by omega)]; exact hf a k n1 n2))
    by_cases hkj : k = j
    · rw [hkj]
      exact ⟨by rw [e2, kst_n (by omega), e1, kst_s], by rw [e2, kst_s]⟩
    · rw [e2, kst_n (by omega), kst_n (by omega), e1, kst_n (by omega), kst_n (by omega)]; exact hv k (by omega)
/-- what is at hand is laid down at i: the others stay -/
def MAt (P : Pic) (i : Nat) (I : KI) : Prop := P.2.length ≤ 7 ∧ P.1.length = 2 * P.2.length ∧ I 102 (i : Int) = (P.2.length : Int) ∧ (∀ k : Nat, k < P.1.length → I 103 ((14 * i + k : Nat) : Int) = (pcx P k : Int) ∧ I 104 ((14 * i + k : Nat) : Int) = bi (pov P k)) ∧ ∀ c : Nat, c < P.2.length → I 105 ((7 * i + c : Nat) : Int) = sgi (psg P c)
def dfr (i : Nat) (I I' : KI) : Prop := ∀ a k, ¬ (102 ≤ a ∧ a ≤ 105) ∨ (a = 102 ∧ k ≠ (i : Int)) ∨ ((a = 103 ∨ a = 104) ∧ ¬ ((14 * i : Nat) ≤ k ∧ k < (14 * i + 14 : Nat))) ∨ (a = 105 ∧ ¬ ((7 * i : Nat) ≤ k ∧ k < (7 * i + 7 : Nat))) → I' a k = I a k
theorem t_M_laysDown {xs : KS} {d i : Nat} {P : Pic} {G : KG} {I : KI} {Q : KQ} (hi : i < 12) (hP : MHd P I) (h : ∀ I' : KI, MAt P i I' → dfr i I I' → Q 0 G I') : kWP xs true (d) 0 0 147 0 [(0, 19, 0, 101), (1, 0, 0, (i : Int))] [] G I Q := by
  obtain ⟨a7, a2, an, av, as⟩ := hP
  refine b_M_laysDown_0 ⟨by omega, fun J0 e0 => ?_⟩
  rw [an] at e0
  have step : ∀ J : KI, J 102 (i : Int) = (P.2.length : Int) → (∀ k : Nat, k < P.1.length → J 103 ((14 * i + k : Nat) : Int) = (pcx P k : Int) ∧ J 104 ((14 * i + k : Nat) : Int) = bi (pov P k)) → dfr i I J → kWP xs true (d) 0 0 147 64 [(0, 19, 0, 101), (1, 0, 0, (i : Int)), (2, 0, 0, ((0 : Nat) : Int))] [] G J Q := by
    intro J h5 hv hf
    refine loop_up (n := P.2.length) (W := fun c => ∀ J : KI, J 102 (i : Int) = (P.2.length : Int) → (∀ k : Nat, k < P.1.length → J 103 ((14 * i + k : Nat) : Int) = (pcx P k : Int) ∧ J 104 ((14 * i + k : Nat) : Int) = bi (pov P k)) → (∀ e : Nat, e < c → J 105 ((7 * i + e : Nat) : Int) = sgi (psg P e)) → dfr i I J → kWP xs true (d) 0 0 147 64 [(0, 19, 0, 101), (1, 0, 0, (i : Int)), (2, 0, 0, (c : Int))] [] G J Q) ?_ ?_ (Nat.zero_le _) J h5 hv (fun e he => absurd he (Nat.not_lt_zero e)) hf
    · intro J h5 hv hs hf
      refine b_M_laysDown_64 ?_
      rw [hf _ _ (by omega), an]
      exact ⟨fun _ => h J ⟨a7, a2, h5, hv, hs⟩ hf, fun hh => by omega⟩
    · intro c hc ih J h5 hv hs hf
      refine b_M_laysDown_64 ?_
      rw [hf 101 5 (by omega), an, w32_id (x := 7 * (i : Int)) (by omega) (by omega), w32_id (x := 7 * (i : Int) + (c : Int)) (by omega) (by omega), w32_inc (by omega), show 7 * (i : Int) + (c : Int) = ((7 * i + c : Nat) : Int) by omega]
      refine ⟨fun hh => by omega, fun _ => ⟨by omega, by omega, fun J1 e1 => ?_⟩⟩
      rw [hf 108 _ (by omega), as c hc] at e1
      refine ih J1 (by rw [e1, kst_n (by omega)]; exact h5) (fun k hk => by rw [e1, kst_n (by omega), kst_n (by omega)]; exact hv k hk) (fun e he => ?_) (fun a k hk => by rw [e1, kst_n (by omega)]; exact hf a k hk)
      rw [e1]
      by_cases hec : e = c
      · rw [hec, kst_s]
      · rw [kst_n (by omega)]; exact hs e (by omega)
  refine loop_up (n := P.1.length) (W := fun j => ∀ J : KI, J 102 (i : Int) = (P.2.length : Int) → (∀ k : Nat, k < j → J 103 ((14 * i + k : Nat) : Int) = (pcx P k : Int) ∧ J 104 ((14 * i + k : Nat) : Int) = bi (pov P k)) → dfr i I J → kWP xs true (d) 0 0 147 12 [(0, 19, 0, 101), (1, 0, 0, (i : Int)), (2, 0, 0, (j : Int))] [] G J Q) ?_ ?_ (Nat.zero_le _) J0 (by rw [e0, kst_s]) (fun k hk => absurd hk (Nat.not_lt_zero k)) (fun a k hk => by rw [e0, kst_n (by omega)])
  · intro J h5 hv hf
    refine b_M_laysDown_12 ?_
    rw [hf 101 5 (by omega), an, w32_id (x := 2 * (P.2.length : Int)) (by omega) (by omega)]
    exact ⟨fun _ => step J h5 hv hf, fun hh => by omega⟩
  · intro j hj ih J h5 hv hf
    refine b_M_laysDown_12 ?_
    rw [hf 101 5 (by omega), an, w32_id (x := 2 * (P.2.length : Int)) (by omega) (by omega), w32_id (x := 14 * (i : Int)) (by omega) (by omega), w32_id (x := 14 * (i : Int) + (j : Int)) (by omega) (by omega), w32_inc (by omega), show 14 * (i : Int) + (j : Int) = ((14 * i + j : Nat) : Int) by omega]
    refine ⟨fun hh => by omega, fun _ => ⟨by omega, by omega, fun J1 e1 => ⟨by omega, by omega, ?_⟩⟩⟩
    have g4 : J1 107 (j : Int) = bi (pov P j) := by rw [e1, kst_n (by omega), hf _ _ (by omega)]; exact (av j hj).2
    rw [hf 106 _ (by omega), (av j hj).1] at e1
    rw [g4]
    refine kzr_bi (fun J2 e2 => ih J2 (by rw [e2, kst_n (by omega), e1, kst_n (by omega)]; exact h5) (fun k hk => ?_) (fun a k hk => by rw [e2, kst_n (by omega), e1, kst_n (by omega)]; exact hf a k hk))
    by_cases hkj : k = j
    · rw [hkj]
      exact ⟨by rw [e2, kst_n (by omega), e1, kst_s], by rw [e2, kst_s]⟩
    · rw [e2, kst_n (by omega), kst_n (by omega), e1, kst_n (by omega), kst_n (by omega)]; exact hv k (by omega)
theorem MPs.upd {ps : List Pic} {I J : KI} {i : Nat} {P : Pic} (h : MPs ps I) (hi : i < ps.length) (hP : MAt P i J) (hf : dfr i I J) : MPs (ps.set i P) J := by
  obtain ⟨h1, h2, h3⟩ := h
  refine ⟨by rw [hf _ _ (by omega), List.length_set]; exact h1, by rw [List.length_set]; exact h2, fun j hj => ?_⟩
  rw [List.length_set] at hj
  unfold pget
  by_cases hij : j = i
  · subst hij
    rw [List.getD_eq_getElem?_getD, List.getElem?_set_self hj]
    exact hP
  · rw [List.getD_eq_getElem?_getD, List.getElem?_set_ne (by omega), ← List.getD_eq_getElem?_getD]
    obtain ⟨a, b, c, e, g⟩ := h3 j hj
    unfold pget at a b c e g
    exact ⟨a, b, by rw [hf _ _ (by omega)]; exact c, fun k hk => by rw [hf _ _ (by omega), hf _ _ (by omega)]; exact e k hk, fun k hk => by rw [hf _ _ (by omega)]; exact g k hk⟩
theorem t_M_keeps {xs : KS} {d : Nat} {ps : List Pic} {P : Pic} {G : KG} {I : KI} {Q : KQ} (hS : MPs ps I) (hl : ps.length < 12) (hP : MHd P I) (h : ∀ I' : KI, MPs (ps ++ [P]) I' → (∀ a k, ¬ (a = 101 ∧ k = 0) → ¬ (102 ≤ a ∧ a ≤ 105) → I' a k = I a k) → Q (ps.length : Int) G I') : kWP xs true (d + 1) 0 0 148 0 [(0, 19, 0, 101)] [] G I Q := by
  obtain ⟨h1, h2, h3⟩ := hS
  refine b_M_keeps_0 ?_
  rw [h1]
  refine t_M_laysDown hl hP (fun J hA hf J1 e1 => ?_)
  rw [hf _ _ (by omega), h1, w32_id (by omega) (by omega)] at e1
  have g0 : J1 101 0 = (ps.length : Int) + 1 := by rw [e1, kst_s]
  rw [g0, w32_id (by omega) (by omega), show (ps.length : Int) + 1 - 1 = (ps.length : Int) by omega]
  have hf1 : ∀ a k, ¬ (a = 101 ∧ k = 0) → J1 a k = J a k := fun a k n => by rw [e1, kst_n (by omega)]
  refine h J1 ⟨by rw [g0, List.length_append, List.length_singleton]; omega, by rw [List.length_append, List.length_singleton]; omega, fun j hj => ?_⟩ (fun a k n1 n2 => by rw [hf1 _ _ n1, hf _ _ (by omega)])
  rw [List.length_append, List.length_singleton] at hj
  unfold pget
  by_cases hij : j = ps.length
  · subst hij
    rw [List.getD_eq_getElem?_getD, List.getElem?_append_right (Nat.le_refl _), Nat.sub_self]
    obtain ⟨a, b, c, e, g⟩ := hA
    exact ⟨a, b, by rw [hf1 _ _ (by omega)]; exact c, fun k hk => by rw [hf1 _ _ (by omega), hf1 _ _ (by omega)]; exact e k hk, fun k hk => by rw [hf1 _ _ (by omega)]; exact g k hk⟩
  · rw [List.getD_eq_getElem?_getD, List.getElem?_append_left (by omega), ← List.getD_eq_getElem?_getD]
    obtain ⟨a, b, c, e, g⟩ := h3 j (by omega)
    unfold pget at a b c e g
    exact ⟨a, b, by rw [hf1 _ _ (by omega), hf _ _ (by omega)]; exact c, fun k hk => by rw [hf1 _ _ (by omega), hf1 _ _ (by omega), hf _ _ (by omega), hf _ _ (by omega)]; exact e k hk, fun k hk => by rw [hf1 _ _ (by omega), hf _ _ (by omega)]; exact g k hk⟩
