/-! LIES: kept ones -/
/-- the kinds of the lies that are kept, and the bodies of the latest run -/
def CLie (K tr : List Int) (I : KI) : Prop := I 37 1 = (K.length : Int) ∧ K.length ≤ 50 ∧ (∀ k, k < K.length → I 38 (k : Int) = K.getD k 0) ∧ I 37 3 = (tr.length : Int) ∧ ∀ k, k < tr.length → k < 24 → I 39 (k : Int) = tr.getD k 0
def keepK (K : List Int) (v : Int) : List Int := if K.length < 50 then K ++ [v] else K
theorem t_Lies_keepOne {xs : KS} {d : Nat} {v : Int} {K tr : List Int} {G : KG} {I : KI} {Q : KQ} (hC : CLie K tr I) (h : ∀ I' : KI, CLie (keepK K v) tr I' → kfr 37 39 I I' → Q (if K.length < 50 then (K.length : Int) else -3) G I') : kWP xs true (d) 0 0 24 0 [(0, 12, 0, 37), (1, 0, 0, v)] [] G I Q := by
  have hC0 := hC
  obtain ⟨c1, c2, c3, c4, c5⟩ := hC
  unfold keepK at h
  refine b_Lies_keepOne_0 ⟨fun h1 => ⟨by omega, fun J1 e1 J2 e2 => ?_⟩, fun h1 => ?_⟩
  · rw [if_pos (by omega)] at h
    rw [e1, kst_a (by omega), c1]
    rw [if_pos (by omega)] at h
    refine h J2 ⟨?_, by rw [List.length_append, List.length_singleton]; omega, fun k hk => ?_, ?_, fun k hk hk2 => ?_⟩ (fun x k hx => by rw [e2, kst_a (by omega), e1, kst_a (by omega)])
    · rw [e2, kst_s, e1, kst_a (by omega), c1, w32_id (by omega) (by omega), List.length_append, List.length_singleton]; omega
    · rw [List.length_append, List.length_singleton] at hk
      rw [e2, kst_a (by omega), e1, c1]
      by_cases hkl : k = K.length
      · subst hkl; rw [kst_s, getD_app1 rfl]
      · rw [kst_k (by omega), c3 k (by omega), getD_app0 (by omega)]
    · rw [e2, kst_k (by omega), e1, kst_a (by omega)]; exact c4
    · rw [e2, kst_a (by omega), e1, kst_a (by omega)]; exact c5 k hk hk2
  · rw [if_neg (by omega), if_neg (by omega)] at h
    exact h I hC0 (kfr.rf _ _ _)
def kindK (K : List Int) (v : Int) : Int := if 0 ≤ v ∧ v < K.length then K.getD v.toNat 0 else 0
theorem t_Lies_kindOf {xs : KS} {d : Nat} {v : Int} {K tr : List Int} {G : KG} {I : KI} {Q : KQ} (hC : CLie K tr I) (h : Q (kindK K v) G I) : kWP xs true (d) 0 0 25 0 [(0, 12, 0, 37), (1, 0, 0, v)] [] G I Q := by
  obtain ⟨c1, c2, c3, c4, c5⟩ := hC
  unfold kindK at h
  refine b_Lies_kindOf_0 ⟨fun h1 => ?_, fun h1 => ⟨fun h2 => ?_, fun h2 => ⟨by omega, ?_⟩⟩⟩
  · rw [if_neg (by omega)] at h; exact h
  · rw [if_neg (by omega)] at h; exact h
  · rw [if_pos (by omega)] at h
    have e := c3 v.toNat (by omega)
    rw [show ((v.toNat : Nat) : Int) = v by omega] at e
    rw [e]; exact h
theorem t_Lies_traced {xs : KS} {d : Nat} {K tr : List Int} {G : KG} {I : KI} {Q : KQ} (hC : CLie K tr I) (h : Q ((min tr.length 24 : Nat) : Int) G I) : kWP xs true (d) 0 0 26 0 [(0, 12, 0, 37)] [] G I Q := by
  refine b_Lies_traced_0 ?_
  rw [hC.2.2.2.1]
  have e : (if (24 : Int) < (tr.length : Int) then (24 : Int) else (tr.length : Int)) = ((min tr.length 24 : Nat) : Int) := by split <;> omega
  rw [e]; exact h
def undr (xs : KS) (t : Int) : Nat → Int → Bool
  | 0, _ => false
  | u + 1, k => if k < 0 then false else if k = t then true else undr xs t u ((xs 1).2 k)
def Abv (xs : KS) : Prop := (xs 1).1 = 8 ∧ ∀ k : Int, 0 ≤ k → k < 8 → (xs 1).2 k < 8
theorem t_Lies_isUnder {xs : KS} {d : Nat} {k t : Int} {G : KG} {I : KI} {Q : KQ} (hA : Abv xs) (hk : k < 8) (h : Q (bi (undr xs t 8 k)) G I) : kWP xs true (d) 0 0 27 0 [(0, 0, 0, k), (1, 0, 0, t)] [] G I Q := by
  refine b_Lies_isUnder_0 ?_
  suffices key : ∀ (u j : Nat) (k : Int), j + u = 8 → k < 8 → Q (bi (undr xs t u k)) G I → kWP xs true (d) 0 0 27 4 [(1, 0, 0, t), (2, 0, 0, k), (3, 0, 0, (j : Int))] [] G I Q from key 8 0 k rfl hk h
  intro u
  induction u with
  | zero =>
    intro j k hj hk h
    exact b_Lies_isUnder_4 ⟨fun _ => h, fun h1 => by omega⟩
  | succ u ih =>
    intro j k hj hk h
    unfold undr at h
    refine b_Lies_isUnder_4 ⟨fun h1 => by omega, fun _ => ⟨fun h1 => ?_, fun h1 => ⟨fun h2 => ⟨?_, ?_⟩, fun h2 => ?_⟩⟩⟩
    · rw [if_pos h1] at h; exact h
    · rw [hA.1]; omega
    · rw [if_neg (by omega), if_neg h2] at h
      rw [w32_id (x := (j : Int) + 1) (by omega) (by omega)]
      exact ih (j + 1) _ (by omega) (hA.2 k h1 hk) h
    · rw [if_neg (by omega), if_pos h2] at h; exact h
