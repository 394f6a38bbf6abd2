/-! SUMS: working out -/
def tly (P : Pic) (pl a : Nat) : Nat → Nat
  | 0 => 0
  | j + 1 => tly P pl a j + (if 8 * npop (j ^^^ pl) + rings P j = a + 1 then 1 else 0)
theorem tly_le {P : Pic} {pl a : Nat} : ∀ j, tly P pl a j ≤ j
  | 0 => Nat.le_refl 0
  | j + 1 => by
    have := tly_le (P := P) (pl := pl) (a := a) j
    unfold tly
    split <;> omega
theorem tly_ex {P : Pic} {pl a : Nat} : ∀ j, tly P pl a j ≠ 0 → ∃ g, g < j ∧ 8 * npop (g ^^^ pl) + rings P g = a + 1
  | 0, h => absurd rfl h
  | j + 1, h => by
    by_cases h1 : 8 * npop (j ^^^ pl) + rings P j = a + 1
    · exact ⟨j, by omega, h1⟩
    · unfold tly at h
      rw [if_neg h1, Nat.add_zero] at h
      obtain ⟨g, hg, e⟩ := tly_ex j h
      exact ⟨g, by omega, e⟩
theorem npop_len : ∀ n, n < 8 → ∀ x, x < 128 → x < 2 ^ n → npop x ≤ n := by decide +kernel
/-- the sum worked out of ways with rings: to the a-th tally -/
def smA (xs : KS) (P : Pic) (pl : Nat) : Nat → Int → Int
  | 0, _ => 0
  | a + 1, k => smA xs P pl a k + (if tly P pl a (2 ^ P.2.length) ≠ 0 then sprT xs (sgn2 (P.2.length + a % 8) (tly P pl a (2 ^ P.2.length) : Int)) (2 * (P.2.length : Int) - (a / 8 : Nat) - 3 * (npop pl : Int) + 21) (a % 8) (a % 8 + 1) k else 0)
theorem t_Sums_work {xs : KS} {d : Nat} {p : Int} {pl : Nat} {P : Pic} {G : KG} {I : KI} {Q : KQ} (hx : (xs 0).1 = 64) (hn : P.2.length ≤ 7) (h4 : I p 4 = (P.2.length : Int)) (hR : CRng p P I) (hrr : ∀ g, g < 2 ^ P.2.length → 1 ≤ rings P g ∧ rings P g ≤ 8) (hpl : pl < 2 ^ P.2.length)
    (h : ∀ I' : KI, (∀ k : Nat, k < 43 → I' (p + 5) (k : Int) = w32 (smA xs P pl 64 k)) → kfr (p + 4) (p + 6) I I' → Q 0 G I') : kWP xs true (d + 1) 0 0 79 0 [(0, 16, 0, p), (1, 0, 0, (pl : Int))] [] G I Q := by
  have hw7 : 2 ^ P.2.length ≤ 2 ^ 7 := Nat.pow_le_pow_right (by omega) hn
  have hpp := npop_len P.2.length (by omega) pl (by omega) hpl
  refine b_Sums_work_0 (t_fill (by omega) (fun J1 e1 => t_fill (by omega) (fun J2 e2 => ?_)))
  have hfr2 : kfr (p + 4) (p + 6) I J2 := fun a k ha => by rw [e2, if_neg (by omega), e1, if_neg (by omega)]
  refine loop_up (n := 2 ^ P.2.length) (W := fun j => ∀ J : KI, kfr (p + 4) (p + 6) I J → (∀ a : Nat, a < 64 → J (p + 4) (a : Int) = (tly P pl a j : Int)) → (∀ k : Nat, k < 43 → J (p + 5) (k : Int) = 0) → kWP xs true (d + 1) 0 0 79 18 [(0, 16, 0, p), (1, 0, 0, (pl : Int)), (2, 0, 0, (j : Int))] [] G J Q) ?_ ?_ (Nat.zero_le _) J2 hfr2 (fun a ha => by rw [e2, if_neg (by omega), e1, if_pos (by omega)]; rfl) (fun k hk => by rw [e2, if_pos (by omega)])
  · intro J hf ht hv
    have h4J : J p 4 = (P.2.length : Int) := by rw [hf _ _ (by omega)]; exact h4
    refine b_Sums_work_18 ⟨fun _ => t_bitCount (by omega) ?_, fun h1 => ?_⟩
    · rw [h4J, w32_id (x := 2 * (npop pl : Int)) (by omega) (by omega), w32_id (x := 2 * (npop pl : Int) - (P.2.length : Int)) (by omega) (by omega)]
      refine loop_up (n := 64) (W := fun j => ∀ J : KI, kfr (p + 4) (p + 6) I J → (∀ a : Nat, a < 64 → J (p + 4) (a : Int) = (tly P pl a (2 ^ P.2.length) : Int)) → (∀ k : Nat, k < 43 → J (p + 5) (k : Int) = w32 (smA xs P pl j k)) → kWP xs true (d + 1) 0 0 79 96 [(0, 16, 0, p), (2, 0, 0, (2 * (npop pl : Int) - (P.2.length : Int))), (3, 0, 0, (j : Int))] [] G J Q) ?_ ?_ (Nat.zero_le _) J hf ht (fun k hk => by rw [hv k hk]; rfl)
      · intro J hf ht hv
        exact b_Sums_work_96 ⟨fun _ => h J hv hf, fun h1 => by omega⟩
      · intro a ha ih J hf ht hv
        have h4J : J p 4 = (P.2.length : Int) := by rw [hf _ _ (by omega)]; exact h4
        have hla := tly_le (P := P) (pl := pl) (a := a) (2 ^ P.2.length)
        refine b_Sums_work_96 ⟨fun h1 => by omega, fun _ => ⟨by omega, ?_⟩⟩
        have es : ∀ k : Int, smA xs P pl (a + 1) k = smA xs P pl a k + (if tly P pl a (2 ^ P.2.length) ≠ 0 then sprT xs (sgn2 (P.2.length + a % 8) (tly P pl a (2 ^ P.2.length) : Int)) (2 * (P.2.length : Int) - (a / 8 : Nat) - 3 * (npop pl : Int) + 21) (a % 8) (a % 8 + 1) k else 0) := fun _ => rfl
        rw [ht a ha, w32_id (x := (a : Int) + 1) (by omega) (by omega)]
        refine ⟨fun h1 => ?_, fun h1 => ⟨by omega, by omega, by omega, ?_⟩⟩
        · refine ih J hf ht (fun k hk => ?_)
          rw [hv k hk, es, if_neg (by omega), Int.add_zero]
        · obtain ⟨g, hg, eg⟩ := tly_ex _ (show tly P pl a (2 ^ P.2.length) ≠ 0 by omega)
          have hx2 : g ^^^ pl < 2 ^ P.2.length := Nat.xor_lt_two_pow hg hpl
          have hpg := npop_len P.2.length (by omega) (g ^^^ pl) (by omega) hx2
          have hrg := hrr g hg
          rw [h4J, show (8 : Int) = ((8 : Nat) : Int) from rfl, kidiv_n (by omega) (by omega) (by omega), kirem_n (by omega) (by omega) (by omega)]
          have hd : a / 8 ≤ P.2.length := by omega
          generalize hq : a / 8 = q8 at *
          rw [w32_id (x := 2 * (q8 : Int)) (by omega) (by omega), w32_id (x := 3 * (2 * (npop pl : Int) - (P.2.length : Int))) (by omega) (by omega), w32_id (x := (P.2.length : Int) - 2 * (q8 : Int)) (by omega) (by omega), w32_id (x := (P.2.length : Int) - 2 * (q8 : Int) - 3 * (2 * (npop pl : Int) - (P.2.length : Int))) (by omega) (by omega)]
          rw [show (P.2.length : Int) - 2 * (q8 : Int) - 3 * (2 * (npop pl : Int) - (P.2.length : Int)) = 2 * (2 * (P.2.length : Int) - (q8 : Int) - 3 * (npop pl : Int)) by omega]
          refine t_Sums_spread hx h4J hn (by omega) (by omega) (by omega) hv (fun J' hf' hv' => ?_)
          refine ih J' (fun x k hxk => by rw [hf' _ _ (by omega)]; exact hf x k hxk) (fun x hx1 => by rw [hf' _ _ (by omega)]; exact ht x hx1) (fun k hk => ?_)
          rw [hv' k hk, es, if_pos (by omega)]
    · rw [h4J, kishl_n (by omega)] at h1
      omega
  · intro j hj ih J hf ht hv
    have h4J : J p 4 = (P.2.length : Int) := by rw [hf _ _ (by omega)]; exact h4
    have hx2 : j ^^^ pl < 2 ^ P.2.length := Nat.xor_lt_two_pow hj hpl
    have hpg := npop_len P.2.length (by omega) (j ^^^ pl) (by omega) hx2
    have hrj := hrr j hj
    refine b_Sums_work_18 ⟨fun h1 => ?_, fun _ => ?_⟩
    · rw [h4J, kishl_n (by omega)] at h1
      omega
    · rw [kixor_n (by omega) (by omega)]
      refine t_bitCount (by omega) ⟨by omega, ?_⟩
      have hJr : J (p + 1) (j : Int) = (rings P j : Int) := by rw [hf _ _ (by omega)]; exact hR j hj
      rw [hJr, w32_id (x := 8 * (npop (j ^^^ pl) : Int)) (by omega) (by omega), w32_id (x := 8 * (npop (j ^^^ pl) : Int) + (rings P j : Int)) (by omega) (by omega), w32_id (x := 8 * (npop (j ^^^ pl) : Int) + (rings P j : Int) - 1) (by omega) (by omega), w32_id (x := (j : Int) + 1) (by omega) (by omega)]
      obtain ⟨z, hz⟩ : ∃ z : Nat, 8 * npop (j ^^^ pl) + rings P j = z + 1 := ⟨8 * npop (j ^^^ pl) + rings P j - 1, by omega⟩
      rw [show 8 * (npop (j ^^^ pl) : Int) + (rings P j : Int) - 1 = (z : Int) by omega]
      refine ⟨fun h1 => by omega, fun _ => ⟨fun h1 => by omega, fun _ => ⟨by omega, by omega, fun J' e => ?_⟩⟩⟩
      have hlz := tly_le (P := P) (pl := pl) (a := z) j
      refine ih J' (fun x k hxk => by rw [e, kst_a (by omega)]; exact hf x k hxk) (fun a ha => ?_) (fun k hk => by rw [e, kst_a (by omega)]; exact hv k hk)
      have et : tly P pl a (j + 1) = tly P pl a j + (if 8 * npop (j ^^^ pl) + rings P j = a + 1 then 1 else 0) := rfl
      rw [et]
      by_cases haz : a = z
      · subst haz
        rw [e, kst_s, ht a ha, if_pos hz, w32_id (by omega) (by omega)]; omega
      · rw [e, kst_k (by omega), ht a ha, if_neg (by omega)]; omega
