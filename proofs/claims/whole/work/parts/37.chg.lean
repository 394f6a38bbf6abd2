/-! CHANGES, and the unlike sums -/
/-- the changes that can be taken back (the first u of L), then those that can be taken up -/
def CChg (L : List Int) (u : Nat) (I : KI) : Prop := I 35 1 = (u : Int) ∧ I 35 2 = ((L.length - u : Nat) : Int) ∧ u ≤ L.length ∧ L.length ≤ 40 ∧ ∀ k, k < L.length → I 36 (k : Int) = L.getD k 0
def chAdd (L : List Int) (u : Nat) (x : Int) : List Int := (if u < 40 then L.take u else (L.take u).drop 1) ++ [x]
def chLen (u : Nat) : Nat := (if u < 40 then u else 39) + 1
theorem getD_app1 {l : List Int} {x : Int} {k : Nat} (h : k = l.length) : (l ++ [x]).getD k 0 = x := by subst h; simp
theorem getD_app0 {l : List Int} {x : Int} {k : Nat} (h : k < l.length) : (l ++ [x]).getD k 0 = l.getD k 0 := by
  rw [List.getD_eq_getElem?_getD, List.getElem?_append_left h, ← List.getD_eq_getElem?_getD]
theorem t_Changes_add {xs : KS} {d : Nat} {a b : Int} {u : Nat} {L : List Int} {G : KG} {I : KI} {Q : KQ} (hC : CChg L u I) (hab : w32 (w32 (10 * a) + b) = 10 * a + b)
    (h : ∀ I' : KI, CChg (chAdd L u (10 * a + b)) (chLen u) I' → kfr 35 37 I I' → Q 0 G I') : kWP xs true (d) 0 0 1 0 [(0, 10, 0, 35), (1, 0, 0, a), (2, 0, 0, b)] [] G I Q := by
  obtain ⟨c1, c2, c3, c4, c5⟩ := hC
  refine b_Changes_add_0 ⟨fun h1 J1 e1 => ⟨by omega, fun J2 e2 J3 e3 => ?_⟩, fun h1 => ⟨by omega, fun J4 e4 J5 e5 J6 e6 => ⟨?_, fun J7 e7 J8 e8 => ?_⟩⟩⟩
  · have hu : u < 40 := by omega
    have hl : (L.take u).length = u := by rw [List.length_take]; omega
    refine h J3 ?_ (fun x k hx => by rw [e3, kst_a (by omega), e2, kst_a (by omega), e1, kst_a (by omega)])
    unfold chAdd chLen
    rw [if_pos hu, if_pos hu]
    refine ⟨?_, ?_, by simp [hl], by simp [hl]; omega, fun k hk => ?_⟩
    · rw [e3, kst_k (by omega), e2, kst_a (by omega), e1, kst_s, c1, w32_id (by omega) (by omega)]; omega
    · rw [e3, kst_s]; simp [hl]
    · rw [e3, kst_a (by omega), e2, c1]
      simp only [List.length_append, List.length_singleton, hl] at hk
      by_cases hku : k = u
      · subst hku; rw [kst_s, hab, getD_app1 hl.symm]
      · rw [kst_k (by omega), e1, kst_a (by omega), c5 k (by omega), getD_app0 (by omega)]
        rw [List.getD_eq_getElem?_getD, List.getD_eq_getElem?_getD, List.getElem?_take_of_lt (by omega)]
  · rw [e5, kst_s]; omega
  · have hu : ¬ u < 40 := by omega
    have hu40 : u = 40 := by omega
    have hl : ((L.take u).drop 1).length = 39 := by rw [List.length_drop, List.length_take]; omega
    have e51 : J5 35 1 = 39 := by rw [e5, kst_s]
    refine h J8 ?_ (fun x k hx => by
      rw [e8, kst_a (by omega), e7, kst_a (by omega), e6, kst_a (by omega), e5, kst_a (by omega), e4]
      unfold kcpy
      rw [if_neg (by omega)])
    unfold chAdd chLen
    rw [if_neg hu, if_neg hu]
    refine ⟨?_, ?_, by rw [List.length_append, hl]; exact Nat.le_refl _, by rw [List.length_append, hl]; exact Nat.le_refl _, fun k hk => ?_⟩
    · rw [e8, kst_k (by omega), e7, kst_a (by omega), e6, kst_s, e51, w32_id (by omega) (by omega)]; rfl
    · rw [e8, kst_s, List.length_append, hl]; rfl
    · rw [e8, kst_a (by omega), e7, e51]
      rw [List.length_append, hl] at hk
      simp only [List.length_singleton] at hk
      by_cases hk3 : k = 39
      · subst hk3
        rw [show ((39 : Nat) : Int) = 39 from rfl, kst_s, hab, getD_app1 hl.symm]
      · rw [kst_k (by omega), e6, kst_a (by omega), e5, kst_a (by omega), e4]
        unfold kcpy
        rw [if_pos (by omega), getD_app0 (by omega), show (1 : Int) + ((k : Int) - 0) = ((1 + k : Nat) : Int) by omega, c5 (1 + k) (by omega)]
        rw [List.getD_eq_getElem?_getD, List.getD_eq_getElem?_getD, List.getElem?_drop, List.getElem?_take_of_lt (by omega)]
theorem t_Changes_takeBack {xs : KS} {d : Nat} {u : Nat} {L : List Int} {G : KG} {I : KI} {Q : KQ} (hC : CChg L u I) (h0 : u = 0 → Q (-1) G I)
    (h1 : ∀ I' : KI, 0 < u → CChg L (u - 1) I' → kfr 35 37 I I' → Q (L.getD (u - 1) 0) G I') : kWP xs true (d) 0 0 2 0 [(0, 10, 0, 35)] [] G I Q := by
  obtain ⟨c1, c2, c3, c4, c5⟩ := hC
  refine b_Changes_takeBack_0 ⟨fun h2 => h0 (by omega), fun h2 => ⟨fun h3 J1 e1 J2 e2 => ?_, fun h3 => by omega⟩⟩
  have f1 : J2 35 1 = ((u - 1 : Nat) : Int) := by rw [e2, kst_k (by omega), e1, kst_s, c1, w32_id (by omega) (by omega)]; omega
  have f3 : ∀ k : Nat, k < L.length → J2 36 (k : Int) = L.getD k 0 := fun k hk => by rw [e2, kst_a (by omega), e1, kst_a (by omega)]; exact c5 k hk
  rw [f1]
  refine ⟨by omega, ?_⟩
  rw [f3 _ (by omega)]
  refine h1 J2 (by omega) ⟨f1, ?_, by omega, c4, f3⟩ (fun x k hx => by rw [e2, kst_a (by omega), e1, kst_a (by omega)])
  rw [e2, kst_s, e1, kst_k (by omega), c2, w32_id (by omega) (by omega)]; omega
theorem t_Changes_takeUp {xs : KS} {d : Nat} {u : Nat} {L : List Int} {G : KG} {I : KI} {Q : KQ} (hC : CChg L u I) (h0 : u = L.length → Q (-1) G I)
    (h1 : ∀ I' : KI, u < L.length → CChg L (u + 1) I' → kfr 35 37 I I' → Q (L.getD u 0) G I') : kWP xs true (d) 0 0 3 0 [(0, 10, 0, 35)] [] G I Q := by
  obtain ⟨c1, c2, c3, c4, c5⟩ := hC
  refine b_Changes_takeUp_0 ⟨fun h2 => h0 (by omega), fun h2 => ⟨fun h3 J1 e1 J2 e2 => ?_, fun h3 => by omega⟩⟩
  have g1 : J1 35 1 = (u : Int) := by rw [e1, kst_k (by omega)]; exact c1
  have f3 : ∀ k : Nat, k < L.length → J2 36 (k : Int) = L.getD k 0 := fun k hk => by rw [e2, kst_a (by omega), e1, kst_a (by omega)]; exact c5 k hk
  rw [g1] at e2 ⊢
  refine ⟨by omega, ?_⟩
  rw [f3 _ (by omega)]
  refine h1 J2 (by omega) ⟨?_, ?_, by omega, c4, f3⟩ (fun x k hx => by rw [e2, kst_a (by omega), e1, kst_a (by omega)])
  · rw [e2, kst_s, w32_id (by omega) (by omega)]; omega
  · rw [e2, kst_k (by omega), e1, kst_s, c2, w32_id (by omega) (by omega)]; omega
theorem t_Changes_end {xs : KS} {d : Nat} {G : KG} {I : KI} {Q : KQ} (h : ∀ I' : KI, CChg [] 0 I' → kfr 35 37 I I' → Q 0 G I') : kWP xs true (d) 0 0 4 0 [(0, 10, 0, 35)] [] G I Q := by
  refine b_Changes_end_0 (fun J1 e1 J2 e2 => h J2 ⟨by rw [e2, kst_k (by omega), e1, kst_s]; rfl, by rw [e2, kst_s]; rfl, by simp, by simp, fun k hk => absurd hk (Nat.not_lt_zero k)⟩ (fun x k hx => by rw [e2, kst_a (by omega), e1, kst_a (by omega)]))
/-- the unlike sums that are kept -/
def CUnl (l : List (List Int)) (I : KI) : Prop := I 18 1 = (l.length : Int) ∧ l.length ≤ 128 ∧ (∀ s ∈ l, s.length = 43) ∧ ∀ i k : Nat, i < l.length → k < 43 → I 19 ((i * 43 + k : Nat) : Int) = (l.getD i []).getD k 0
theorem t_Unlike_forget {xs : KS} {d : Nat} {G : KG} {I : KI} {Q : KQ} (h : ∀ I' : KI, CUnl [] I' → kfr 18 20 I I' → Q 0 G I') : kWP xs true (d) 0 0 82 0 [(0, 17, 0, 18)] [] G I Q := by
  refine b_Unlike_forget_0 (fun J1 e1 => h J1 ⟨by rw [e1, kst_s]; rfl, by simp, by simp, fun i k hi => absurd hi (Nat.not_lt_zero i)⟩ (fun x k hx => by rw [e1, kst_a (by omega)]))
theorem lst43 {s t : List Int} (hs : s.length = 43) (ht : t.length = 43) (h : ∀ k, k < 43 → s.getD k 0 = t.getD k 0) : s = t := by
  refine List.ext_getElem (by omega) (fun k h1 h2 => ?_)
  have := h k (by omega)
  rw [List.getD_eq_getElem?_getD, List.getD_eq_getElem?_getD, List.getElem?_eq_getElem h1, List.getElem?_eq_getElem h2] at this
  exact this
theorem getD_mem {l : List (List Int)} {i : Nat} (h : i < l.length) : l.getD i [] ∈ l := by
  rw [List.getD_eq_getElem?_getD, List.getElem?_eq_getElem h]; exact List.getElem_mem h
theorem t_Unlike_isKept {xs : KS} {d : Nat} {q : Int} {i : Nat} {l : List (List Int)} {s : List Int} {G : KG} {I : KI} {Q : KQ} (hU : CUnl l I) (hi : i < l.length) (hs : s.length = 43) (hq : ∀ k : Nat, k < 43 → I q (k : Int) = s.getD k 0) (h : Q (bi (decide (l.getD i [] = s))) G I) : kWP xs true (d) 0 0 84 0 [(0, 17, 0, 18), (1, 0, 0, (i : Int)), (2, 4, 43, q)] [] G I Q := by
  obtain ⟨c1, c2, c3, c4⟩ := hU
  have hl43 := c3 _ (getD_mem hi)
  refine b_Unlike_isKept_0 ?_
  refine loop_up (n := 43) (W := fun j => (∀ k, k < j → (l.getD i []).getD k 0 = s.getD k 0) → kWP xs true (d) 0 0 84 2 [(0, 17, 0, 18), (1, 0, 0, (i : Int)), (2, 4, 43, q), (3, 0, 0, (j : Int))] [] G I Q) ?_ ?_ (Nat.zero_le _) (fun k hk => absurd hk (Nat.not_lt_zero k))
  · intro hk
    rw [decide_eq_true (lst43 hl43 hs hk)] at h
    exact b_Unlike_isKept_2 ⟨fun _ => h, fun h1 => by omega⟩
  · intro j hj ih hk
    refine b_Unlike_isKept_2 ⟨fun h1 => by omega, fun _ => ?_⟩
    rw [w32_id (x := (i : Int) * 43) (by omega) (by omega), w32_id (x := (i : Int) * 43 + (j : Int)) (by omega) (by omega), w32_id (x := (j : Int) + 1) (by omega) (by omega), show (i : Int) * 43 + (j : Int) = ((i * 43 + j : Nat) : Int) by omega, c4 i j hi hj, hq j hj]
    refine ⟨by omega, by omega, fun h1 => ih (fun k hk2 => ?_), fun h1 => ?_⟩
    · by_cases hkj : k = j
      · subst hkj; exact h1
      · exact hk k (by omega)
    · rw [decide_eq_false (fun e => h1 (by rw [e]))] at h
      exact h
def unl (l : List (List Int)) (s : List Int) : List (List Int) := if s ∈ l then l else if l.length < 128 then l ++ [s] else l
theorem t_Unlike_keepIfNew {xs : KS} {d : Nat} {q : Int} {l : List (List Int)} {s : List Int} {G : KG} {I : KI} {Q : KQ} (hU : CUnl l I) (hs : s.length = 43) (hq : ∀ k : Nat, k < 43 → I q (k : Int) = s.getD k 0) (h : ∀ I' : KI, CUnl (unl l s) I' → kfr 18 20 I I' → Q 0 G I') : kWP xs true (d + 1) 0 0 83 0 [(0, 17, 0, 18), (1, 4, 43, q)] [] G I Q := by
  have hU0 := hU
  obtain ⟨c1, c2, c3, c4⟩ := hU
  refine b_Unlike_keepIfNew_0 ?_
  refine loop_up (n := l.length) (W := fun j => (∀ i, i < j → l.getD i [] ≠ s) → kWP xs true (d + 1) 0 0 83 2 [(0, 17, 0, 18), (1, 4, 43, q), (2, 0, 0, (j : Int))] [] G I Q) ?_ ?_ (Nat.zero_le _) (fun k hk => absurd hk (Nat.not_lt_zero k))
  · intro hk
    have hns : s ∉ l := fun hm => by
      obtain ⟨i, hi, e⟩ := List.getElem_of_mem hm
      exact hk i hi (by rw [List.getD_eq_getElem?_getD, List.getElem?_eq_getElem hi, e]; rfl)
    unfold unl at h
    rw [if_neg hns] at h
    refine b_Unlike_keepIfNew_2 ⟨fun _ => ⟨fun h1 => ?_, fun h1 => ?_⟩, fun h1 => by omega⟩
    · rw [if_pos (by omega)] at h
      rw [c1, w32_id (x := (l.length : Int) * 43) (by omega) (by omega)]
      refine ⟨by omega, fun J1 e1 J2 e2 => h J2 ⟨?_, by simp; omega, ?_, fun i k hi hk3 => ?_⟩ (fun x k hx => ?_)⟩
      · rw [e2, kst_s, e1]
        unfold kcpy
        rw [if_neg (by omega), c1, w32_id (by omega) (by omega)]; simp
      · intro t ht
        rcases List.mem_append.mp ht with ht | ht
        · exact c3 t ht
        · rw [List.mem_singleton.mp ht]; exact hs
      · rw [e2, kst_a (by omega), e1]
        unfold kcpy
        rw [List.length_append, List.length_singleton] at hi
        by_cases hil : i = l.length
        · subst hil
          rw [if_pos (by omega), show (0 : Int) + (((l.length * 43 + k : Nat) : Int) - (l.length : Int) * 43) = (k : Int) by omega, hq k hk3]
          simp
        · rw [if_neg (by omega), c4 i k (by omega) hk3]
          rw [List.getD_eq_getElem?_getD (l := l ++ [s]), List.getElem?_append_left (by omega), ← List.getD_eq_getElem?_getD]
      · rw [e2, kst_a (by omega), e1]
        unfold kcpy
        rw [if_neg (by omega)]
    · rw [if_neg (by omega)] at h
      exact h I hU0 (kfr.rf _ _ _)
  · intro j hj ih hk
    refine b_Unlike_keepIfNew_2 ⟨fun h1 => by omega, fun _ => t_Unlike_isKept hU0 hj hs hq ⟨fun h1 => ?_, fun h1 => ?_⟩⟩
    · rw [w32_id (x := (j : Int) + 1) (by omega) (by omega)]
      refine ih (fun i hi => ?_)
      by_cases hij : i = j
      · subst hij
        intro e
        rw [decide_eq_true e] at h1
        simp [bi] at h1
      · exact hk i (by omega)
    · have e : l.getD j [] = s := by
        rcases Decidable.em (l.getD j [] = s) with e | e
        · exact e
        · rw [decide_eq_false e] at h1; simp [bi] at h1
      unfold unl at h
      rw [if_pos (by rw [← e]; exact getD_mem hj)] at h
      exact h I hU0 (kfr.rf _ _ _)
