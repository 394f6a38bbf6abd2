/-! PICTURES joined, without crossings, of plaits -/
theorem vla_mem {P : Pic} {b j : Nat} {z : Nat × Bool × Bool} (h : z ∈ vla P b j) : ∃ i, i < j ∧ z.1 = b + pcx P i := by
  obtain ⟨i, hi, rfl⟩ := List.mem_map.mp h
  exact ⟨i, List.mem_range.mp hi, rfl⟩
theorem t_Picture_beJoined {xs : KS} {d : Nat} {p q r : Int} {P R : Pic} {G : KG} {I : KI} {Q : KQ} (hP : CPic q P I) (hR : CPic r R I) (hpq : p + 3 ≤ q ∨ q + 2 ≤ p) (hpr : p + 3 ≤ r ∨ r + 2 ≤ p)
    (hc1 : ∀ k, k < P.1.length → pcx P k < P.2.length) (hc2 : ∀ k, k < R.1.length → pcx R k < R.2.length) (hn : P.2.length + R.2.length ≤ 7) (hm : P.1.length + R.1.length ≤ 14)
    (h : ∀ I' : KI, CPic p (bldF bs0 (vla P 0 P.1.length ++ vla R 7 R.1.length)).2 I' → kfr p (p + 3) I I' → I' p 3 = 0 → Q 0 G I') : kWP xs true (d + 2) 0 0 52 0 [(0, 13, 0, p), (1, 13, 0, q), (2, 13, 0, r)] [] G I Q := by
  refine b_Picture_beJoined_0 (t_Picture_begin (fun J hB0 hf0 hs0 => ?_))
  have hr1 : ∀ j, j ≤ P.1.length → ∀ z ∈ vla P 0 j, ∃ c, c < P.2.length ∧ z.1 = c := fun j hj z hz => by
    obtain ⟨i, hi, e⟩ := vla_mem hz
    exact ⟨pcx P i, hc1 i (by omega), by omega⟩
  have hr2 : ∀ j, j ≤ R.1.length → ∀ z ∈ vla R 7 j, ∃ c, c < R.2.length ∧ z.1 = 7 + c := fun j hj z hz => by
    obtain ⟨i, hi, e⟩ := vla_mem hz
    exact ⟨pcx R i, hc2 i (by omega), by omega⟩
  refine t_Picture_addAll (l := []) (b := 0) (hP.fr hf0 (by omega)) hpq (Or.inl rfl) hB0 (fun j hj => ?_) (by have := hP.2.1; simp; omega) (fun J1 hB1 hf1 hs1 => ?_)
  · rw [List.nil_append]
    refine bcap id (fun z hz => ?_) (by have := hc1 j hj; simp; omega) (fun _ _ _ _ e => e) (fun _ _ e => e)
    obtain ⟨c, hc, e⟩ := hr1 j (by omega) z hz
    simp; omega
  · rw [List.nil_append] at hB1
    refine t_Picture_addAll (b := 7) (hR.fr (hf0.tr hf1) (by omega)) hpr (Or.inr rfl) hB1 (fun j hj => ?_) (by unfold vla; simp; omega) (fun J2 hB2 hf2 hs2 => ?_)
    · have hcj := hc2 j hj
      have all : ∀ z ∈ vla P 0 P.1.length ++ vla R 7 j, (∃ c, c < P.2.length ∧ z.1 = c) ∨ (∃ c, c < R.2.length ∧ z.1 = 7 + c) := fun z hz => by
        rcases List.mem_append.mp hz with hz | hz
        · exact Or.inl (hr1 _ (Nat.le_refl _) z hz)
        · exact Or.inr (hr2 _ (by omega) z hz)
      have h7 := hP.1
      refine bcap (fun x => if x < 7 then x else P.2.length + (x - 7)) (fun z hz => ?_) ?_ (fun z hz z' hz' e => ?_) (fun z hz e => ?_)
      · rcases all z hz with ⟨c, hc, e⟩ | ⟨c, hc, e⟩
        · rw [if_pos (by omega)]; omega
        · rw [if_neg (by omega)]; omega
      · rw [if_neg (by omega)]; omega
      · rcases all z hz with ⟨c, hc, e1⟩ | ⟨c, hc, e1⟩ <;> rcases all z' hz' with ⟨c', hc', e2⟩ | ⟨c', hc', e2⟩
        · rw [if_pos (by omega), if_pos (by omega)] at e; exact e
        · rw [if_pos (by omega), if_neg (by omega)] at e; omega
        · rw [if_neg (by omega), if_pos (by omega)] at e; omega
        · rw [if_neg (by omega), if_neg (by omega)] at e; omega
      · rw [if_neg (by omega : ¬ 7 + pcx R j < 7)] at e
        rcases all z hz with ⟨c, hc, e1⟩ | ⟨c, hc, e1⟩
        · rw [if_pos (by omega)] at e; omega
        · rw [if_neg (by omega)] at e; omega
    · exact h J2 hB2.1 ((hf0.tr hf1).tr hf2) (by rw [hs2, hs1, hs0])
theorem t_Picture_beWithout {xs : KS} {d : Nat} {p q : Int} {P : Pic} {g : Nat} {G : KG} {I : KI} {Q : KQ} (hP : CPic q P I) (hg : g < 128) (hpq : p + 3 ≤ q ∨ q + 2 ≤ p) (h : ∀ I' : KI, CPic p (bldF bs0 (vlw P g P.1.length)).2 I' → kfr p (p + 3) I I' → I' p 3 = 0 → Q 0 G I') : kWP xs true (d + 2) 0 0 54 0 [(0, 13, 0, p), (1, 13, 0, q), (2, 0, 0, (g : Int))] [] G I Q := by
  have hl := hP.2.1
  refine b_Picture_beWithout_0 (t_Picture_begin (fun J hB0 hf0 hs0 => ?_))
  refine loop_up (n := P.1.length) (W := fun j => ∀ J : KI, CBld p (bldF bs0 (vlw P g j)) J → kfr p (p + 3) I J → J p 3 = 0 → kWP xs true (d + 2) 0 0 54 6 [(0, 13, 0, p), (1, 13, 0, q), (2, 0, 0, (g : Int)), (3, 0, 0, (j : Int))] [] G J Q) ?_ ?_ (Nat.zero_le _) J hB0 hf0 hs0
  · intro J hB hf hs
    have hPJ := hP.fr hf (by omega)
    refine b_Picture_beWithout_6 ⟨fun _ => h J hB.1 hf hs, fun h1 => ?_⟩
    rw [hPJ.2.2.2.1] at h1; omega
  · intro j hj ih J hB hf hs
    have hPJ := hP.fr hf (by omega)
    have hc := hPJ.2.2.2.2.1 j hj
    refine b_Picture_beWithout_6 ⟨fun h1 => ?_, fun _ => ⟨⟨by omega, by omega⟩, ?_⟩⟩
    · rw [hPJ.2.2.2.1] at h1; omega
    · rw [hc.1, kbit_n (by omega) (by omega), w32_id (by omega) (by omega)]
      refine ⟨fun h1 => ?_, fun h1 => ?_⟩
      · have hb : g.testBit (pcx P j) = true := by cases hx : g.testBit (pcx P j) <;> rw [hx] at h1 <;> simp at h1 ⊢
        refine ih J ?_ hf hs
        have e : vlw P g (j + 1) = vlw P g j := by unfold vlw; rw [List.range_succ, List.filter_append]; simp [hb]
        rw [e]; exact hB
      · have hb : g.testBit (pcx P j) = false := by cases hx : g.testBit (pcx P j) <;> rw [hx] at h1 <;> simp at h1 ⊢
        have e : vlw P g (j + 1) = vlw P g j ++ [vof P j] := by unfold vlw; rw [List.range_succ, List.filter_append, List.map_append]; simp [hb]
        have hll : (vlw P g j).length ≤ j := by
          unfold vlw
          rw [List.length_map]
          have := List.length_filter_le (fun k => !(g.testBit (pcx P k))) (List.range j)
          simpa using this
        have hlen : (bldF bs0 (vlw P g j)).2.1.length < 14 := by rw [bldF_len]; simp [bs0]; omega
        have hcap : pcx P j ∉ (bldF bs0 (vlw P g j)).1 → (bldF bs0 (vlw P g j)).1.length < 7 := by
          refine bcap id (fun z hz => ?_) hc.2 (fun _ _ _ _ e => e) (fun _ _ e => e)
          obtain ⟨i, hi, rfl⟩ := List.mem_map.mp hz
          have := List.mem_range.mp (List.mem_filter.mp hi).1
          exact (hPJ.2.2.2.2.1 i (by omega)).2
        refine t_Picture_isOver hPJ (by omega) (t_Picture_isPlus hPJ hc.2 (t_Picture_visit hB (by omega) hlen hcap (fun J' hB' hf' hs' => ?_)))
        refine ih J' ?_ (hf.tr hf') (by rw [hs']; exact hs)
        rw [e, bldF_app, bldF_one]
        exact hB'
/-- through a plait's letters once, from a place -/
def stg (ws : Nat → Nat) (i : Nat) (S : VL × Nat) : VL × Nat :=
  if S.2 = ws i / 2 then (S.1 ++ [(i, decide (ws i % 2 = 0), decide (ws i % 2 = 0))], ws i / 2 + 1) else if S.2 = ws i / 2 + 1 then (S.1 ++ [(i, !(decide (ws i % 2 = 0)), decide (ws i % 2 = 0))], ws i / 2) else S
def goa (ws : Nat → Nat) : Nat → VL × Nat → VL × Nat
  | 0, S => S
  | i + 1, S => stg ws i (goa ws i S)
theorem stg_le {ws : Nat → Nat} {i : Nat} {S : VL × Nat} : S.1.length ≤ (stg ws i S).1.length := by
  unfold stg
  split
  · simp
  · split
    · simp
    · exact Nat.le_refl _
theorem goa_le {ws : Nat → Nat} {S : VL × Nat} : ∀ {j i : Nat}, i ≤ j → (goa ws i S).1.length ≤ (goa ws j S).1.length
  | 0, i, h => by rw [show i = 0 by omega]; exact Nat.le_refl _
  | j + 1, i, h => by
    by_cases hij : i = j + 1
    · rw [hij]; exact Nat.le_refl _
    · exact Nat.le_trans (goa_le (j := j) (by omega)) stg_le
theorem stg_mem {ws : Nat → Nat} {i : Nat} {S : VL × Nat} {z : Nat × Bool × Bool} (h : z ∈ (stg ws i S).1) : z ∈ S.1 ∨ z.1 = i := by
  unfold stg at h
  split at h
  · rcases List.mem_append.mp h with h | h
    · exact Or.inl h
    · rw [List.mem_singleton.mp h]; exact Or.inr rfl
  · split at h
    · rcases List.mem_append.mp h with h | h
      · exact Or.inl h
      · rw [List.mem_singleton.mp h]; exact Or.inr rfl
    · exact Or.inl h
theorem goa_mem {ws : Nat → Nat} {S : VL × Nat} : ∀ {j : Nat} {z : Nat × Bool × Bool}, z ∈ (goa ws j S).1 → z ∈ S.1 ∨ z.1 < j
  | 0, z, h => Or.inl h
  | j + 1, z, h => by
    rcases stg_mem h with h | h
    · rcases goa_mem (j := j) h with h | h
      · exact Or.inl h
      · exact Or.inr (by omega)
    · exact Or.inr (by omega)
theorem t_Picture_goAlong {xs : KS} {d : Nat} {p wa : Int} {w1 n pl : Nat} {ws : Nat → Nat} {l : VL} {G : KG} {I : KI} {Q : KQ} (hwa : p + 3 ≤ wa ∨ wa < p) (hw : ∀ k, k < n → I wa k = (ws k : Int) ∧ ws k < 6) (hn : n ≤ 7) (hn1 : n ≤ w1) (hB : CBld p (bldF bs0 l) I) (hl7 : ∀ z ∈ l, z.1 < 7) (hpl : pl < 8)
    (hlen : (goa ws n (l, pl)).1.length ≤ 14) (h : ∀ I' : KI, CBld p (bldF bs0 (goa ws n (l, pl)).1) I' → kfr p (p + 3) I I' → I' p 3 = I p 3 → Q ((goa ws n (l, pl)).2 : Int) G I') : kWP xs true (d + 1) 0 0 49 0 [(0, 13, 0, p), (1, 4, w1, wa), (2, 0, 0, (n : Int)), (3, 0, 0, (pl : Int))] [] G I Q := by
  refine b_Picture_goAlong_0 ?_
  refine loop_up (n := n) (W := fun j => ∀ J : KI, CBld p (bldF bs0 (goa ws j (l, pl)).1) J → (goa ws j (l, pl)).2 < 8 → kfr p (p + 3) I J → J p 3 = I p 3 → kWP xs true (d + 1) 0 0 49 6 [(0, 13, 0, p), (1, 4, w1, wa), (2, 0, 0, (n : Int)), (4, 0, 0, ((goa ws j (l, pl)).2 : Int)), (5, 0, 0, (j : Int))] [] G J Q) ?_ ?_ (Nat.zero_le _) I hB hpl (kfr.rf _ _ _) rfl
  · intro J hBJ _ hf hs
    exact b_Picture_goAlong_6 ⟨fun _ => h J hBJ hf hs, fun h1 => by omega⟩
  · intro j hj ih J hBJ h8 hf hs
    have hwj := hw j hj
    have hJw : J wa j = (ws j : Int) := by rw [hf _ _ (by omega)]; exact hwj.1
    have hmono : (goa ws (j + 1) (l, pl)).1.length ≤ 14 := Nat.le_trans (goa_le (by omega)) hlen
    have hn7 : ∀ z ∈ (goa ws j (l, pl)).1, z.1 < 7 := fun z hz => by
      rcases goa_mem hz with h1 | h1
      · exact hl7 z h1
      · omega
    have hcap : j ∉ (bldF bs0 (goa ws j (l, pl)).1).1 → (bldF bs0 (goa ws j (l, pl)).1).1.length < 7 := bcap id hn7 (by simp; omega) (fun _ _ _ _ e => e) (fun _ _ e => e)
    have hstep : ∀ (S' : VL × Nat), S' = goa ws (j + 1) (l, pl) → ∀ J' : KI, CBld p (bldF bs0 S'.1) J' → kfr p (p + 3) J J' → J' p 3 = J p 3 → kWP xs true (d + 1) 0 0 49 6 [(0, 13, 0, p), (1, 4, w1, wa), (2, 0, 0, (n : Int)), (4, 0, 0, (S'.2 : Int)), (5, 0, 0, (w32 ((j : Int) + 1)))] [] G J' Q := by
      intro S' hS' J' hB' hf' hs'
      subst hS'
      rw [w32_id (by omega) (by omega)]
      refine ih J' hB' ?_ (hf.tr hf') (by rw [hs']; exact hs)
      show (stg ws j (goa ws j (l, pl))).2 < 8
      unfold stg
      split
      · simp only; omega
      · split
        · simp only; omega
        · exact h8
    have e1 : goa ws (j + 1) (l, pl) = stg ws j (goa ws j (l, pl)) := rfl
    rw [e1] at hmono hstep
    generalize goa ws j (l, pl) = S at *
    have at41 : ∀ sm : Bool, sm = decide (ws j % 2 = 0) → kWP xs true (d + 1) 0 0 49 41 [(0, 13, 0, p), (1, 4, w1, wa), (2, 0, 0, (n : Int)), (4, 0, 0, (S.2 : Int)), (5, 0, 0, (j : Int)), (6, 0, 0, ((ws j / 2 : Nat) : Int))] [(0, 0, bi sm)] G J Q := by
      intro sm hsm
      refine b_Picture_goAlong_41 ⟨fun h1 => ⟨fun h2 => ?_, fun h2 => ⟨fun h3 => ?_, fun h3 => ?_⟩⟩, fun h1 => ?_⟩
      · rw [w32_id (x := ((ws j / 2 : Nat) : Int) + 1) (by omega) (by omega)] at h2
        have e : stg ws j S = S := by unfold stg; rw [if_neg (by omega), if_neg (by omega)]
        rw [e] at hstep
        exact hstep S rfl J hBJ (kfr.rf _ _ _) rfl
      · rw [w32_id (by omega) (by omega)] at h2
        have hs1 := bi1 h3
        rw [hs1] at hsm ⊢
        have e : stg ws j S = (S.1 ++ [(j, false, true)], ws j / 2) := by unfold stg; rw [if_neg (by omega), if_pos (by omega), ← hsm]; rfl
        rw [e] at hstep hmono
        refine t_Picture_visit (o := false) (s := true) hBJ (by omega) (by rw [bldF_len]; simp [bs0] at hmono ⊢; omega) hcap (fun J' hB' hf' hs' => ?_)
        exact hstep _ rfl J' (by rw [bldF_app, bldF_one]; exact hB') hf' hs'
      · rw [w32_id (by omega) (by omega)] at h2
        have hs1 := bi0 h3
        rw [hs1] at hsm ⊢
        have e : stg ws j S = (S.1 ++ [(j, true, false)], ws j / 2) := by unfold stg; rw [if_neg (by omega), if_pos (by omega), ← hsm]; rfl
        rw [e] at hstep hmono
        refine t_Picture_visit (o := true) (s := false) hBJ (by omega) (by rw [bldF_len]; simp [bs0] at hmono ⊢; omega) hcap (fun J' hB' hf' hs' => ?_)
        exact hstep _ rfl J' (by rw [bldF_app, bldF_one]; exact hB') hf' hs'
      · have e : stg ws j S = (S.1 ++ [(j, sm, sm)], ws j / 2 + 1) := by unfold stg; rw [if_pos (by omega), ← hsm]
        rw [e] at hstep hmono
        refine t_Picture_visit hBJ (by omega) (by rw [bldF_len]; simp [bs0] at hmono ⊢; omega) hcap (fun J' hB' hf' hs' => ?_)
        have h9 := hstep _ rfl J' (by rw [bldF_app, bldF_one]; exact hB') hf' hs'
        rw [w32_id (x := ((ws j / 2 : Nat) : Int) + 1) (by omega) (by omega)]
        rw [show ((ws j / 2 : Nat) : Int) + 1 = ((ws j / 2 + 1 : Nat) : Int) by omega]
        exact h9
    refine b_Picture_goAlong_6 ⟨fun h1 => by omega, fun _ => ⟨fun h1 => by omega, fun _ => ⟨⟨by omega, by omega⟩, by omega, ⟨by omega, by omega⟩, by omega, ?_⟩⟩⟩
    rw [hJw, show (2 : Int) = ((2 : Nat) : Int) from rfl, kirem_n (by omega) (by omega) (by omega), kidiv_n (by omega) (by omega) (by omega)]
    refine ⟨fun h1 => ?_, fun h1 => ?_⟩
    · exact at41 false (by rw [decide_eq_false (by omega)])
    · exact at41 true (by rw [decide_eq_true (by omega)])
