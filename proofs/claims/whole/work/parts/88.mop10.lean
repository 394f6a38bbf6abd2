/-! THE MODEL: numbers anew -/
def vq (l : VL) (k : Nat) : Nat × Bool × Bool := l.getD k (0, false, false)
theorem vq_get {l : VL} {k : Nat} (h : k < l.length) : vq l k = l[k] := by
  unfold vq
  rw [List.getD_eq_getElem?_getD, List.getElem?_eq_getElem h]; rfl
theorem bld_s {l : VL} {j : Nat} (h : j < l.length) : bldF bs0 (l.take (j + 1)) = bst (bldF bs0 (l.take j)) (vq l j).1 (vq l j).2.1 (vq l j).2.2 := by
  rw [List.take_succ_eq_append_getElem h, bldF_app, vq_get h]; rfl
theorem bst_mono (B : Bld) (nm : Nat) (o s : Bool) : B.1.length ≤ (bst B nm o s).1.length := by
  unfold bst
  split
  · exact Nat.le_refl _
  · simp
theorem bld_mono {l : VL} : ∀ (u j : Nat), j + u = l.length → (bldF bs0 (l.take j)).1.length ≤ (bldF bs0 l).1.length
  | 0, j, h => by rw [List.take_of_length_le (by omega)]; exact Nat.le_refl _
  | u + 1, j, h => by
    have h1 := bld_mono (l := l) u (j + 1) (by omega)
    rw [bld_s (by omega)] at h1
    exact Nat.le_trans (bst_mono _ _ _ _) h1
/-- what is made so far -/
theorem bld_ok {l : VL} : ∀ j, j ≤ l.length → (bldF bs0 (l.take j)).2.1.length = j ∧ (bldF bs0 (l.take j)).1.length = (bldF bs0 (l.take j)).2.2.length ∧
    ∀ k, k < j → (vq l k).1 ∈ (bldF bs0 (l.take j)).1 ∧ pcx (bldF bs0 (l.take j)).2 k = (bldF bs0 (l.take j)).1.idxOf (vq l k).1 ∧ pov (bldF bs0 (l.take j)).2 k = (vq l k).2.1
  | 0, _ => ⟨rfl, rfl, fun k hk => absurd hk (Nat.not_lt_zero k)⟩
  | j + 1, h => by
    obtain ⟨h1, h2, h3⟩ := bld_ok (l := l) j (by omega)
    rw [bld_s (by omega)]
    generalize bldF bs0 (l.take j) = B at *
    obtain ⟨D, V, S⟩ := B
    simp only at h1 h2 h3
    unfold bst
    by_cases hin : (vq l j).1 ∈ D
    · rw [if_pos hin]
      refine ⟨by simp only [List.length_append, List.length_singleton]; omega, h2, fun k hk => ?_⟩
      simp only
      rw [pcx_app _ _ _ _ S, pov_app _ _ _ _ S]
      by_cases e : k = j
      · rw [e, if_pos (by omega), if_pos (by omega)]; exact ⟨hin, rfl, rfl⟩
      · rw [if_neg (by omega), if_neg (by omega)]; exact h3 k (by omega)
    · rw [if_neg hin]
      refine ⟨by simp only [List.length_append, List.length_singleton]; omega, by simp only [List.length_append, List.length_singleton]; omega, fun k hk => ?_⟩
      simp only
      rw [pcx_app _ _ _ _ S, pov_app _ _ _ _ S]
      by_cases e : k = j
      · rw [e, if_pos (by omega), if_pos (by omega)]
        refine ⟨by simp, ?_, rfl⟩
        rw [List.idxOf_append, if_neg hin]
        simp
      · rw [if_neg (by omega), if_neg (by omega)]
        obtain ⟨a, b, c⟩ := h3 k (by omega)
        exact ⟨List.mem_append_left _ a, by rw [b, List.idxOf_append, if_pos a], c⟩
/-- the visits at hand by name -/
def MVs (l : VL) (n : Nat) (I : KI) : Prop := n ≤ 7 ∧ l.length = 2 * n ∧ I 101 5 = (n : Int) ∧ (∀ k : Nat, k < l.length → I 106 (k : Int) = ((vq l k).1 : Int) ∧ I 107 (k : Int) = bi (vq l k).2.1 ∧ (vq l k).1 < 7 ∧ I 108 ((vq l k).1 : Int) = sgi (vq l k).2.2)
theorem t_M_numbersAnew {xs : KS} {d n : Nat} {l : VL} {G : KG} {I : KI} {Q : KQ} (hV : MVs l n I) (hn : (bldF bs0 l).2.2.length = n)
    (h : ∀ I' : KI, MHd (bldF bs0 l).2 I' → (∀ a k, ¬ (a = 106) → ¬ (108 ≤ a ∧ a ≤ 110) → I' a k = I a k) → Q 0 G I') : kWP xs true (d) 0 0 149 0 [(0, 19, 0, 101)] [] G I Q := by
  obtain ⟨v1, v2, v3, v4⟩ := hV
  have hok := bld_ok (l := l) l.length (Nat.le_refl _)
  rw [List.take_length] at hok
  obtain ⟨o1, o2, o3⟩ := hok
  refine b_M_numbersAnew_0 ?_
  refine loop_up (n := 8) (W := fun i => ∀ J : KI, (∀ k : Nat, k < i → J 109 (k : Int) = -1) → (∀ a k, a ≠ 109 → J a k = I a k) → kWP xs true (d) 0 0 149 2 [(0, 19, 0, 101), (1, 0, 0, (i : Int))] [] G J Q) ?_ ?_ (Nat.zero_le _) I (fun i hi => absurd hi (Nat.not_lt_zero i)) (fun _ _ _ => rfl)
  · intro J0 hJ0 hf0
    refine b_M_numbersAnew_2 ⟨fun _ => ?_, fun hh => by omega⟩
    refine loop_up (n := l.length) (W := fun j => ∀ J : KI, (∀ nm : Nat, nm < 8 → J 109 (nm : Int) = if nm ∈ (bldF bs0 (l.take j)).1 then ((bldF bs0 (l.take j)).1.idxOf nm : Int) else -1) → (∀ c : Nat, c < (bldF bs0 (l.take j)).1.length → J 110 (c : Int) = sgi (psg (bldF bs0 (l.take j)).2 c)) → (∀ a k, a ≠ 109 → a ≠ 110 → J a k = I a k) → kWP xs true (d) 0 0 149 25 [(0, 19, 0, 101), (1, 0, 0, ((bldF bs0 (l.take j)).1.length : Int)), (2, 0, 0, (j : Int))] [] G J Q) ?_ ?_ (Nat.zero_le _) J0 (fun nm hnm => ?_) (fun c hc => absurd hc (Nat.not_lt_zero c)) (fun a k n1 _ => hf0 a k n1)
    · intro J1 hN1 hG1 hf1
      rw [List.take_length] at hN1 hG1 ⊢
      refine b_M_numbersAnew_25 ?_
      rw [hf1 _ _ (by omega) (by omega), v3, w32_id (x := 2 * (n : Int)) (by omega) (by omega)]
      refine ⟨fun _ => ?_, fun hh => by omega⟩
      refine loop_up (n := l.length) (W := fun j => ∀ J : KI, (∀ k : Nat, k < l.length → J 106 (k : Int) = if k < j then (pcx (bldF bs0 l).2 k : Int) else ((vq l k).1 : Int)) → (∀ a k, a ≠ 106 → J a k = J1 a k) → kWP xs true (d) 0 0 149 89 [(0, 19, 0, 101), (2, 0, 0, (j : Int))] [] G J Q) ?_ ?_ (Nat.zero_le _) J1 (fun k hk => by rw [if_neg (by omega), hf1 _ _ (by omega) (by omega)]; exact (v4 k hk).1) (fun _ _ _ => rfl)
      · intro J2 hJ2 hf2
        refine b_M_numbersAnew_89 ?_
        rw [hf2 _ _ (by omega), hf1 _ _ (by omega) (by omega), v3, w32_id (x := 2 * (n : Int)) (by omega) (by omega)]
        refine ⟨fun _ => ?_, fun hh => by omega⟩
        refine loop_up (n := n) (W := fun c => ∀ J : KI, (∀ k : Nat, k < c → J 108 (k : Int) = sgi (psg (bldF bs0 l).2 k)) → (∀ a k, a ≠ 108 → J a k = J2 a k) → kWP xs true (d) 0 0 149 124 [(0, 19, 0, 101), (2, 0, 0, (c : Int))] [] G J Q) ?_ ?_ (Nat.zero_le _) J2 (fun i hi => absurd hi (Nat.not_lt_zero i)) (fun _ _ _ => rfl)
        · intro J3 hJ3 hf3
          refine b_M_numbersAnew_124 ?_
          rw [hf3 _ _ (by omega), hf2 _ _ (by omega), hf1 _ _ (by omega) (by omega), v3]
          refine ⟨fun _ => h J3 ⟨by omega, by omega, ?_, fun k hk => ?_, fun c hc => hJ3 c (by omega)⟩ (fun a k n1 n2 => ?_), fun hh => by omega⟩
          · rw [hf3 _ _ (by omega), hf2 _ _ (by omega), hf1 _ _ (by omega) (by omega), v3, hn]
          · rw [o1] at hk
            refine ⟨?_, ?_⟩
            · rw [hf3 _ _ (by omega), hJ2 k hk, if_pos hk]
            · rw [hf3 _ _ (by omega), hf2 _ _ (by omega), hf1 _ _ (by omega) (by omega), (v4 k hk).2.1, (o3 k hk).2.2]
          · rw [hf3 _ _ (by omega), hf2 _ _ (by omega), hf1 _ _ (by omega) (by omega)]
        · intro c hc ih J hJ hf
          refine b_M_numbersAnew_124 ?_
          rw [hf 101 5 (by omega), hf2 101 5 (by omega), hf1 101 5 (by omega) (by omega), v3, w32_inc (k := c) (by omega)]
          refine ⟨fun hh => by omega, fun _ => ⟨by omega, by omega, fun K ek => ih K (fun k hk => ?_) (fun a k n => by rw [ek, kst_n (by omega)]; exact hf a k n)⟩⟩
          by_cases e : k = c
          · rw [e, ek, kst_s, hf _ _ (by omega), hf2 _ _ (by omega), hG1 c (by omega)]
          · rw [ek, kst_n (by omega)]; exact hJ k (by omega)
      · intro j hj ih J hJ hf
        refine b_M_numbersAnew_89 ?_
        have hj4 := (v4 j hj).2.2.1
        rw [hf 101 5 (by omega), hf1 101 5 (by omega) (by omega), v3, w32_id (x := 2 * (n : Int)) (by omega) (by omega), w32_inc (k := j) (by omega), hJ j hj, if_neg (by omega)]
        refine ⟨fun hh => by omega, fun _ => ⟨by omega, by omega, by omega, fun K ek => ih K (fun k hk => ?_) (fun a k n => by rw [ek, kst_n (by omega)]; exact hf a k n)⟩⟩
        by_cases e : k = j
        · rw [e, ek, kst_s, if_pos (by omega), hf _ _ (by omega), hN1 _ (by omega), if_pos (o3 j hj).1, (o3 j hj).2.1]
        · rw [ek, kst_n (by omega), hJ k hk]
          by_cases e2 : k < j
          · rw [if_pos e2, if_pos (by omega)]
          · rw [if_neg e2, if_neg (by omega)]
    · intro j hj ih J hN hG hf
      obtain ⟨w1, w2, w3, w4⟩ := v4 j hj
      have hmo := bld_mono (l := l) (l.length - (j + 1)) (j + 1) (by omega)
      have hb2 := (bld_ok (l := l) j (by omega)).2.1
      rw [bld_s hj] at hmo ih
      refine b_M_numbersAnew_25 ?_
      rw [hf 101 5 (by omega) (by omega), v3, w32_id (x := 2 * (n : Int)) (by omega) (by omega), w32_inc (k := j) (by omega), hf 106 _ (by omega) (by omega), w1, hN _ (by omega)]
      generalize bldF bs0 (l.take j) = B at *
      refine ⟨fun hh => by omega, fun _ => ⟨by omega, by omega, fun h5 => ?_, fun h5 => ?_⟩⟩
      · have hin : (vq l j).1 ∈ B.1 := Decidable.byContradiction (fun hn => by rw [if_neg hn] at h5; omega)
        have eB : bst B (vq l j).1 (vq l j).2.1 (vq l j).2.2 = (B.1, (B.2.1 ++ [(B.1.idxOf (vq l j).1, (vq l j).2.1)], B.2.2)) := by unfold bst; rw [if_pos hin]
        rw [eB] at ih
        exact ih J hN hG hf
      · have hni : (vq l j).1 ∉ B.1 := fun hin => by rw [if_pos hin] at h5; omega
        have eB : bst B (vq l j).1 (vq l j).2.1 (vq l j).2.2 = (B.1 ++ [(vq l j).1], (B.2.1 ++ [(B.1.length, (vq l j).2.1)], B.2.2 ++ [(vq l j).2.2])) := by unfold bst; rw [if_neg hni]
        rw [eB] at ih hmo
        simp only [List.length_append, List.length_singleton] at ih hmo
        have hB7 : B.1.length < 7 := by omega
        refine ⟨by omega, by omega, fun K1 e1 => ⟨by omega, ?_⟩⟩
        have k1 : K1 106 (j : Int) = ((vq l j).1 : Int) := by rw [e1, kst_n (by omega), hf _ _ (by omega) (by omega)]; exact w1
        have k2 : K1 108 ((vq l j).1 : Int) = sgi (vq l j).2.2 := by rw [e1, kst_n (by omega), hf _ _ (by omega) (by omega)]; exact w4
        rw [k1, k2, w32_inc (k := B.1.length) (by omega)]
        refine ⟨by omega, by omega, fun K2 e2 => ih K2 (fun nm hnm => ?_) (fun c hc => ?_) (fun a k n1 n2 => ?_)⟩
        · rw [e2, kst_n (by omega), e1]
          by_cases e : nm = (vq l j).1
          · rw [e, kst_s, if_pos (by simp), List.idxOf_append, if_neg hni]
            simp
          · rw [kst_n (by omega), hN nm hnm]
            by_cases hm : nm ∈ B.1
            · rw [if_pos hm, if_pos (List.mem_append_left _ hm), List.idxOf_append, if_pos hm]
            · rw [if_neg hm, if_neg (by simp [hm, e])]
        · rw [e2, psg_app _ B.2.1]
          by_cases e : c = B.1.length
          · rw [e, kst_s, if_pos hb2]
          · rw [kst_n (by omega), e1, kst_n (by omega), if_neg (by omega)]
            exact hG c (by omega)
        · rw [e2, kst_n (by omega), e1, kst_n (by omega)]
          exact hf a k n1 n2
    · rw [hJ0 nm hnm]; rfl
  · intro i hi ih J hJ hf
    refine b_M_numbersAnew_2 ⟨fun hh => by omega, fun _ => ⟨by omega, fun K ek => ?_⟩⟩
    rw [w32_inc (by omega)]
    refine ih K (fun k hk => ?_) (fun a k n => by rw [ek, kst_n (by omega)]; exact hf a k n)
    by_cases e : k = i
    · rw [e, ek, kst_s]
    · rw [ek, kst_n (by omega)]; exact hJ k (by omega)
