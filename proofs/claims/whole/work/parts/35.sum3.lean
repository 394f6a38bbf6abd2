/-! SUMS: spreading -/
theorem w32_add (a b : Int) : w32 (w32 a + w32 b) = w32 (a + b) := by unfold w32; omega
def sprT (xs : KS) (sg b : Int) (t : Nat) : Nat → Int → Int
  | 0, _ => 0
  | i + 1, k => sprT xs sg b t i k + (if k = b + t - 2 * i then sg * (xs 0).2 (8 * (t : Int) + i) else 0)
def sgn2 (n : Nat) (v : Int) : Int := if n % 2 = 0 then v else -v
theorem t_Sums_spread {xs : KS} {d : Nat} {p e v : Int} {n t : Nat} {T : Int → Int} {G : KG} {I : KI} {Q : KQ} (hx : (xs 0).1 = 64) (h4 : I p 4 = (n : Int)) (hn : n ≤ 7) (ht : t ≤ 7) (he : -14 ≤ e ∧ e ≤ 14) (hv : -1000 ≤ v ∧ v ≤ 1000) (hV : ∀ k : Nat, k < 43 → I (p + 5) (k : Int) = w32 (T k))
    (h : ∀ I' : KI, (∀ a k, a ≠ p + 5 → I' a k = I a k) → (∀ k : Nat, k < 43 → I' (p + 5) (k : Int) = w32 (T k + sprT xs (sgn2 (n + t) v) (e + 21) t (t + 1) k)) → Q 0 G I') : kWP xs true (d) 0 0 80 0 [(0, 16, 0, p), (1, 0, 0, (2 * e)), (2, 0, 0, (t : Int)), (3, 0, 0, v)] [] G I Q := by
  have main : ∀ sg : Int, sg = sgn2 (n + t) v → kWP xs true (d) 0 0 80 22 [(0, 16, 0, p), (1, 0, 0, (2 * e)), (2, 0, 0, (t : Int)), (4, 0, 0, sg), (5, 0, 0, 0)] [] G I Q := by
    intro sg hsg
    rw [← hsg] at h
    refine loop_up (n := t + 1) (W := fun j => ∀ J : KI, (∀ a k, a ≠ p + 5 → J a k = I a k) → (∀ k : Nat, k < 43 → J (p + 5) (k : Int) = w32 (T k + sprT xs sg (e + 21) t j k)) → kWP xs true (d) 0 0 80 22 [(0, 16, 0, p), (1, 0, 0, (2 * e)), (2, 0, 0, (t : Int)), (4, 0, 0, sg), (5, 0, 0, (j : Int))] [] G J Q) ?_ ?_ (Nat.zero_le _) I (fun _ _ _ => rfl) (fun k hk => by rw [hV k hk]; unfold sprT; rw [Int.add_zero])
    · intro J hf hr
      exact b_Sums_spread_22 ⟨fun _ => h J hf hr, fun h1 => by omega⟩
    · intro j hj ih J hf hr
      refine b_Sums_spread_22 ⟨fun h1 => by omega, fun _ => ⟨by omega, ?_⟩⟩
      obtain ⟨z, hz⟩ : ∃ z : Nat, (z : Int) = e + 21 + t - 2 * j := ⟨(e + 21 + t - 2 * j).toNat, by omega⟩
      have hz43 : z < 43 := by omega
      have e1 : kidiv (w32 ((w32 ((w32 (2 * e + (w32 (2 * (t : Int))))) - (w32 (4 * (j : Int))))) + 42)) 2 = (z : Int) := by
        rw [w32_id (x := 2 * (t : Int)) (by omega) (by omega), w32_id (x := 4 * (j : Int)) (by omega) (by omega), w32_id (x := 2 * e + 2 * (t : Int)) (by omega) (by omega), w32_id (x := 2 * e + 2 * (t : Int) - 4 * (j : Int)) (by omega) (by omega), w32_id (x := 2 * e + 2 * (t : Int) - 4 * (j : Int) + 42) (by omega) (by omega)]
        rw [show 2 * e + 2 * (t : Int) - 4 * (j : Int) + 42 = ((2 * z : Nat) : Int) by omega, show (2 : Int) = ((2 : Nat) : Int) from rfl, kidiv_n (by omega) (by omega) (by omega)]
        omega
      rw [e1, w32_id (x := 8 * (t : Int)) (by omega) (by omega), w32_id (x := 8 * (t : Int) + (j : Int)) (by omega) (by omega), w32_id (x := (j : Int) + 1) (by omega) (by omega)]
      refine ⟨fun h1 => by omega, fun _ => ⟨fun h1 => by omega, fun _ => ⟨by omega, by omega, by omega, fun J' e2 => ?_⟩⟩⟩
      refine ih J' (fun a k ha => by rw [e2, kst_a ha]; exact hf a k ha) (fun k hk => ?_)
      have es : sprT xs sg (e + 21) t (j + 1) (k : Int) = sprT xs sg (e + 21) t j (k : Int) + (if (k : Int) = e + 21 + t - 2 * j then sg * (xs 0).2 (8 * (t : Int) + j) else 0) := rfl
      rw [es]
      by_cases hkz : k = z
      · subst hkz
        rw [e2, kst_s, hr k hk, if_pos hz, w32_add, Int.add_assoc]
      · rw [e2, kst_k (by omega), hr k hk, if_neg (by omega), Int.add_zero]
  refine b_Sums_spread_0 ⟨by omega, ?_⟩
  rw [h4, w32_id (x := (n : Int) + (t : Int)) (by omega) (by omega), show (n : Int) + (t : Int) = ((n + t : Nat) : Int) by omega, show (2 : Int) = ((2 : Nat) : Int) from rfl, kirem_n (by omega) (by omega) (by omega), w32_id (x := -v) (by omega) (by omega)]
  refine ⟨fun h1 => main (-v) ?_, fun h1 => main v ?_⟩
  · unfold sgn2; rw [if_neg (by omega)]
  · unfold sgn2; rw [if_pos (by omega)]
