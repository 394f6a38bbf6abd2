/-! SUMS: cutting -/
def CRng (p : Int) (P : Pic) (I : KI) : Prop := ∀ g : Nat, g < 2 ^ P.2.length → I (p + 1) (g : Int) = (rings P g : Int)
theorem t_Sums_cut {xs : KS} {d : Nat} {p q : Int} {P : Pic} {G : KG} {I : KI} {Q : KQ} (hP : CPic q P I) (hpq : p + 4 ≤ q ∨ q + 2 ≤ p) (h : ∀ I' : KI, CCut p P I' → CRng p P I' → kfr p (p + 4) I I' → Q 0 G I') : kWP xs true (d + 2) 0 0 76 0 [(0, 16, 0, p), (1, 13, 0, q)] [] G I Q := by
  refine b_Sums_cut_0 (fun J1 e1 J2 e2 => ?_)
  have hf2 : kfr p (p + 4) I J2 := fun a k ha => by rw [e2, kst_a (by omega), e1, kst_a (by omega)]
  have h40 : J2 p 4 = (P.2.length : Int) := by rw [e2, kst_k (by omega), e1, kst_s]; exact hP.2.2.1
  have h50 : J2 p 5 = (P.1.length : Int) := by rw [e2, kst_s, e1, kst_a (by omega)]; exact hP.2.2.2.1
  refine loop_up (n := P.1.length) (W := fun j => ∀ J : KI, kfr p (p + 4) I J → J p 4 = (P.2.length : Int) → J p 5 = (P.1.length : Int) → (∀ k, k < j → J (p + 2) (k : Int) = (pcx P k : Int) ∧ pcx P k < 7 ∧ J (p + 3) (k : Int) = (agn P k : Int)) → kWP xs true (d + 2) 0 0 76 18 [(0, 16, 0, p), (1, 13, 0, q), (2, 0, 0, (j : Int))] [] G J Q) ?_ ?_ (Nat.zero_le _) J2 hf2 h40 h50 (fun k hk => absurd hk (Nat.not_lt_zero k))
  · intro J hf h4 h5 hc
    refine b_Sums_cut_18 ⟨fun _ => ?_, fun h1 => by omega⟩
    have hw7 : 2 ^ P.2.length ≤ 2 ^ 7 := Nat.pow_le_pow_right (by omega) hP.1
    refine loop_up (n := 2 ^ P.2.length) (W := fun j => ∀ J : KI, kfr p (p + 4) I J → CCut p P J → (∀ g, g < j → J (p + 1) (g : Int) = (rings P g : Int)) → kWP xs true (d + 2) 0 0 76 57 [(0, 16, 0, p), (1, 13, 0, q), (2, 0, 0, (j : Int))] [] G J Q) ?_ ?_ (Nat.zero_le _) J hf ⟨hP.1, hP.2.1, h4, h5, hc⟩ (fun k hk => absurd hk (Nat.not_lt_zero k))
    · intro J hf hC hr
      exact b_Sums_cut_57 (t_Picture_ways (hP.fr hf (by omega)) ⟨fun _ => h J hC hr hf, fun h1 => by omega⟩)
    · intro j hj ih J hf hC hr
      refine b_Sums_cut_57 (t_Picture_ways (hP.fr hf (by omega)) ⟨fun h1 => by omega, fun _ => t_Sums_ringsOf hC (by omega) ⟨by omega, fun J' e => ?_⟩⟩)
      rw [w32_id (x := (j : Int) + 1) (by omega) (by omega)]
      refine ih J' (fun a k ha => by rw [e, kst_a (by omega)]; exact hf a k ha) ⟨hC.1, hC.2.1, by rw [e, kst_a (by omega)]; exact hC.2.2.1, by rw [e, kst_a (by omega)]; exact hC.2.2.2.1, fun k hk => by rw [e, kst_a (by omega), kst_a (by omega)]; exact hC.2.2.2.2 k hk⟩ (fun g hg => ?_)
      by_cases hgj : g = j
      · subst hgj; rw [e, kst_s]
      · rw [e, kst_k (by omega)]; exact hr g (by omega)
  · intro j hj ih J hf h4 h5 hc
    have hPJ := hP.fr hf (by omega)
    have hl := hP.2.1
    have hcj := hPJ.2.2.2.2.1 j hj
    refine b_Sums_cut_18 ⟨fun h1 => by omega, fun _ => ⟨by omega, by omega, fun J1 e1 => ?_⟩⟩
    have hf1 : kfr p (p + 4) I J1 := fun a k ha => by rw [e1, kst_a (by omega)]; exact hf a k ha
    refine t_Picture_again (hP.fr hf1 (by omega)) hj ⟨by omega, fun J2 e2 => ?_⟩
    rw [w32_id (x := (j : Int) + 1) (by omega) (by omega)]
    refine ih J2 (fun a k ha => by rw [e2, kst_a (by omega)]; exact hf1 a k ha) (by rw [e2, kst_a (by omega), e1, kst_a (by omega)]; exact h4) (by rw [e2, kst_a (by omega), e1, kst_a (by omega)]; exact h5) (fun k hk => ?_)
    by_cases hkj : k = j
    · subst hkj
      exact ⟨by rw [e2, kst_a (by omega), e1, kst_s]; exact hcj.1, hcj.2, by rw [e2, kst_s]⟩
    · have := hc k (by omega)
      exact ⟨by rw [e2, kst_a (by omega), e1, kst_k (by omega)]; exact this.1, this.2.1, by rw [e2, kst_k (by omega), e1, kst_a (by omega)]; exact this.2.2⟩
