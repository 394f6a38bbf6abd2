/-! THE CLASS: changes in thought, hidden ones, simpler ones -/
theorem xor_lt {a b n : Nat} (h : a < 2 ^ n) (g : b < 2 ^ n) : a ^^^ b < 2 ^ n := Nat.xor_lt_two_pow h g
theorem pw7 {n : Nat} (h : n ≤ 7) : 2 ^ n ≤ 128 := Nat.pow_le_pow_right (n := 2) (j := 7) (by omega) h
theorem pw_pos (n : Nat) : 0 < 2 ^ n := Nat.two_pow_pos n
/-- the fewest changes -/
def fwc (xs : KS) (P : Pic) : Nat → Nat
  | 0 => 2 ^ P.2.length - 1
  | j + 1 => let b := fwc xs P j; if j ≠ 0 ∧ npop b ≤ npop j then b else if isPl (val xs P (plm P.2 ^^^ j)) = true then j else b
theorem fwc_lt {xs : KS} {P : Pic} : ∀ j, j ≤ 2 ^ P.2.length → fwc xs P j < 2 ^ P.2.length
  | 0, _ => by have := pw_pos P.2.length; unfold fwc; omega
  | j + 1, h => by
    have ih := fwc_lt (xs := xs) (P := P) j (by omega)
    unfold fwc
    simp only
    split
    · exact ih
    · split
      · omega
      · exact ih
theorem t_C_fewestChanges {xs : KS} {d : Nat} {p : Int} {P : Pic} {G : KG} {I : KI} {Q : KQ} (hx : (xs 0).1 = 64) (hP : CPic p P I) (hp : 17 ≤ p) (hR : RgOk P)
    (h : ∀ I' : KI, kfr 11 17 I I' → Q (fwc xs P (2 ^ P.2.length) : Int) G I') : kWP xs true (d + 3) 0 0 133 0 [(0, 18, 0, 0), (1, 13, 0, p)] [] G I Q := by
  have h7 := pw7 hP.1
  have hpl := plm_lt P.2
  refine b_C_fewestChanges_0 (t_Sums_cutS hP (by omega) (fun J0 hC0 hf0 => t_Picture_ways (hP.fr hf0 (by omega)) ?_))
  rw [show ((2 ^ P.2.length : Nat) : Int) - 1 = ((fwc xs P 0 : Nat) : Int) by have := pw_pos P.2.length; unfold fwc; omega]
  rw [w32_id (by omega) (by have := fwc_lt (xs := xs) (P := P) 0 (by omega); omega)]
  have hf0' : kfr 11 17 I J0 := hf0.w (by omega) (by omega)
  refine loop_up (n := 2 ^ P.2.length) (W := fun j => ∀ J : KI, CSm 11 P J → kfr 11 17 I J → kWP xs true (d + 3) 0 0 133 17 [(0, 18, 0, 0), (1, 13, 0, p), (2, 0, 0, (fwc xs P j : Int)), (3, 0, 0, (j : Int))] [] G J Q) ?_ ?_ (Nat.zero_le _) J0 hC0 hf0'
  · intro J hC hf
    have hPJ := hP.fr hf (by omega)
    exact b_C_fewestChanges_17 (t_Picture_ways hPJ ⟨fun _ => h J hf, fun h1 => by omega⟩)
  · intro j hj ih J hC hf
    have hPJ := hP.fr hf (by omega)
    have hb := fwc_lt (xs := xs) (P := P) j (by omega)
    have e1 : w32 ((j : Int) + 1) = ((j + 1 : Nat) : Int) := by rw [w32_id (by omega) (by omega)]; omega
    have hx7 : plm P.2 ^^^ j < 2 ^ P.2.length := xor_lt hpl hj
    have try_ : ¬ (j ≠ 0 ∧ npop (fwc xs P j) ≤ npop j) → kWP xs true (d + 2) 0 0 79 0 [(0, 16, 0, 11), (1, 0, 0, kixor (J p 7) (j : Int))] [] G J (fun _ G2 I2 => kWP xs true (d + 2) 0 0 130 0 [(0, 4, 43, 16)] [] G2 I2 (fun r3 G3 I3 => (r3 = 0 → kWP xs true (d + 3) 0 0 133 17 [(0, 18, 0, 0), (1, 13, 0, p), (2, 0, 0, (fwc xs P j : Int)), (3, 0, 0, w32 ((j : Int) + 1))] [] G3 I3 Q) ∧ (r3 ≠ 0 → kWP xs true (d + 3) 0 0 133 17 [(0, 18, 0, 0), (1, 13, 0, p), (2, 0, 0, (j : Int)), (3, 0, 0, w32 ((j : Int) + 1))] [] G3 I3 Q))) := by
      intro hn
      rw [hPJ.pl, kixor_n (by omega) (by omega)]
      refine t_Sums_workS hx hC hR hx7 (fun J2 hC2 hV2 hf2 => t_C_isPlain hV2 ?_)
      rw [e1]
      have ih := ih J2 hC2 (hf.tr (hf2.w (by omega) (by omega)))
      unfold fwc at ih
      simp only at ih
      rw [if_neg hn] at ih
      cases hb : isPl (val xs P (plm P.2 ^^^ j)) with
      | false => rw [hb, if_neg (by simp)] at ih; exact ⟨fun _ => ih, fun hh => absurd rfl hh⟩
      | true => rw [hb, if_pos rfl] at ih; exact ⟨fun hh => absurd hh (by decide), fun _ => ih⟩
    refine b_C_fewestChanges_17 (t_Picture_ways hPJ ⟨fun h1 => by omega, fun _ => ⟨fun h1 => try_ (by omega), fun h1 => t_bitCount (by omega) (t_bitCount (by omega) ⟨fun h2 => try_ (by omega), fun h2 => ?_⟩)⟩⟩)
    rw [e1]
    have ih := ih J hC hf
    unfold fwc at ih
    simp only at ih
    rw [if_pos ⟨by omega, by omega⟩] at ih
    exact ih
/-- bits within others -/
def sub (j h : Nat) : Bool := decide (j &&& h = j)
theorem sub_k : ∀ j : Nat, j < 128 → ∀ h : Nat, h < 128 → (kiand (j : Int) (kixor (h : Int) (-1)) = 0 ↔ sub j h = true) := by decide +kernel
def plA (xs : KS) (P : Pic) (h : Nat) : Nat → Nat
  | 0 => 0
  | j + 1 => plA xs P h j + (if sub j h = true ∧ isPl (val xs P (plm P.2 ^^^ j)) = true then 1 else 0)
theorem plA_le {xs : KS} {P : Pic} {h : Nat} : ∀ j, plA xs P h j ≤ j
  | 0 => Nat.le_refl 0
  | j + 1 => by have := plA_le (xs := xs) (P := P) (h := h) j; unfold plA; split <;> omega
theorem t_C_plainAmong {xs : KS} {d : Nat} {p : Int} {hb : Nat} {P : Pic} {G : KG} {I : KI} {Q : KQ} (hx : (xs 0).1 = 64) (hP : CPic p P I) (hC : CSm 11 P I) (hp : 17 ≤ p) (hR : RgOk P) (hh : hb < 2 ^ P.2.length)
    (h : ∀ I' : KI, kfr 11 17 I I' → Q (plA xs P hb (2 ^ P.2.length) : Int) G I') : kWP xs true (d + 3) 0 0 136 0 [(0, 18, 0, 0), (1, 13, 0, p), (2, 0, 0, (hb : Int))] [] G I Q := by
  have h7 := pw7 hP.1
  have hpl := plm_lt P.2
  refine b_C_plainAmong_0 ?_
  refine loop_up (n := 2 ^ P.2.length) (W := fun j => ∀ J : KI, CSm 11 P J → kfr 11 17 I J → kWP xs true (d + 3) 0 0 136 5 [(0, 18, 0, 0), (1, 13, 0, p), (2, 0, 0, (hb : Int)), (3, 0, 0, (plA xs P hb j : Int)), (4, 0, 0, (j : Int))] [] G J Q) ?_ ?_ (Nat.zero_le _) I hC (kfr.rf _ _ _)
  · intro J hC hf
    have hPJ := hP.fr hf (by omega)
    exact b_C_plainAmong_5 (t_Picture_ways hPJ ⟨fun _ => h J hf, fun h1 => by omega⟩)
  · intro j hj ih J hC hf
    have hPJ := hP.fr hf (by omega)
    have e1 : w32 ((j : Int) + 1) = ((j + 1 : Nat) : Int) := by rw [w32_id (by omega) (by omega)]; omega
    have hx7 : plm P.2 ^^^ j < 2 ^ P.2.length := xor_lt hpl hj
    have hA := plA_le (xs := xs) (P := P) (h := hb) j
    refine b_C_plainAmong_5 (t_Picture_ways hPJ ⟨fun h1 => by omega, fun _ => ⟨fun h1 => ?_, fun h1 => ?_⟩⟩)
    · have hs := (sub_k j (by omega) hb (by omega)).mp h1
      rw [hPJ.pl, kixor_n (by omega) (by omega)]
      refine t_Sums_workS hx hC hR hx7 (fun J2 hC2 hV2 hf2 => t_C_isPlain hV2 ?_)
      rw [e1]
      have ih := ih J2 hC2 (hf.tr (hf2.w (by omega) (by omega)))
      unfold plA at ih
      cases hb : isPl (val xs P (plm P.2 ^^^ j)) with
      | false => rw [if_neg (by rw [hb]; simp)] at ih; exact ⟨fun _ => ih, fun hh => absurd rfl hh⟩
      | true =>
        rw [if_pos ⟨hs, hb⟩] at ih
        refine ⟨fun hh => absurd hh (by decide), fun _ => ?_⟩
        rw [w32_id (by omega) (by omega)]
        exact ih
    · have hs : ¬ sub j hb = true := fun hh => h1 ((sub_k j (by omega) hb (by omega)).mpr hh)
      rw [e1]
      have ih := ih J hC hf
      unfold plA at ih
      rw [if_neg (fun hh => hs hh.1)] at ih
      exact ih
def vL (V : Nat → Int) : List Int := (List.range 43).map V
theorem vL_len (V : Nat → Int) : (vL V).length = 43 := by unfold vL; simp
theorem vL_at (V : Nat → Int) {k : Nat} (h : k < 43) : (vL V).getD k 0 = V k := by
  unfold vL
  rw [List.getD_eq_getElem?_getD, List.getElem?_map, List.getElem?_range h]; rfl
def unA (xs : KS) (P : Pic) (h : Nat) : Nat → List (List Int)
  | 0 => []
  | j + 1 => if sub j h = true then unl (unA xs P h j) (vL (val xs P (plm P.2 ^^^ j))) else unA xs P h j
theorem t_C_unlikeAmong {xs : KS} {d : Nat} {p : Int} {hb : Nat} {P : Pic} {G : KG} {I : KI} {Q : KQ} (hx : (xs 0).1 = 64) (hP : CPic p P I) (hC : CSm 11 P I) (hp : 20 ≤ p) (hR : RgOk P) (hh : hb < 2 ^ P.2.length)
    (h : ∀ I' : KI, kfr 11 20 I I' → Q ((unA xs P hb (2 ^ P.2.length)).length : Int) G I') : kWP xs true (d + 3) 0 0 137 0 [(0, 18, 0, 0), (1, 13, 0, p), (2, 0, 0, (hb : Int))] [] G I Q := by
  have h7 := pw7 hP.1
  have hpl := plm_lt P.2
  refine b_C_unlikeAmong_0 (t_Unlike_forget (fun J0 hU0 hf0 => ?_))
  refine loop_up (n := 2 ^ P.2.length) (W := fun j => ∀ J : KI, CSm 11 P J → CUnl (unA xs P hb j) J → kfr 11 20 I J → kWP xs true (d + 3) 0 0 137 9 [(0, 18, 0, 0), (1, 13, 0, p), (2, 0, 0, (hb : Int)), (3, 0, 0, (j : Int))] [] G J Q) ?_ ?_ (Nat.zero_le _) J0 (hC.fr (fun a k _ h2 => hf0 a k (by omega))) hU0 (hf0.w (by omega) (by omega))
  · intro J hC hU hf
    have hPJ := hP.fr hf (by omega)
    refine b_C_unlikeAmong_9 (t_Picture_ways hPJ ⟨fun _ => ?_, fun h1 => by omega⟩)
    rw [hU.1]
    exact h J hf
  · intro j hj ih J hC hU hf
    have hPJ := hP.fr hf (by omega)
    have e1 : w32 ((j : Int) + 1) = ((j + 1 : Nat) : Int) := by rw [w32_id (by omega) (by omega)]; omega
    have hx7 : plm P.2 ^^^ j < 2 ^ P.2.length := xor_lt hpl hj
    refine b_C_unlikeAmong_9 (t_Picture_ways hPJ ⟨fun h1 => by omega, fun _ => ⟨fun h1 => ?_, fun h1 => ?_⟩⟩)
    · have hs := (sub_k j (by omega) hb (by omega)).mp h1
      rw [hPJ.pl, kixor_n (by omega) (by omega)]
      refine t_Sums_workS hx hC hR hx7 (fun J2 hC2 hV2 hf2 => ?_)
      have hU2 : CUnl (unA xs P hb j) J2 := by
        obtain ⟨u1, u2, u3, u4⟩ := hU
        exact ⟨by rw [hf2 _ _ (by omega)]; exact u1, u2, u3, fun i k hi hk => by rw [hf2 _ _ (by omega)]; exact u4 i k hi hk⟩
      refine t_Unlike_keepIfNew (s := vL (val xs P (plm P.2 ^^^ j))) hU2 (vL_len _) (fun k hk => by rw [vL_at _ hk]; exact hV2 k hk) (fun J3 hU3 hf3 => ?_)
      rw [e1]
      refine ih J3 (hC2.fr (fun a k _ h2 => hf3 a k (by omega))) ?_ ((hf.tr (hf2.w (by omega) (by omega))).tr (hf3.w (by omega) (by omega)))
      unfold unA
      rw [if_pos hs]
      exact hU3
    · have hs : ¬ sub j hb = true := fun hh => h1 ((sub_k j (by omega) hb (by omega)).mpr hh)
      rw [e1]
      refine ih J hC ?_ hf
      unfold unA
      rw [if_neg hs]
      exact hU
