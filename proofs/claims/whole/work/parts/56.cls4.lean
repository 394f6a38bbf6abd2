/-! THE CLASS: ways counted, one picture wanted or the plain ring -/
set_option maxRecDepth 100000 in
theorem b_C_countWays_49n {xs : KS} {d : Nat} {v3 v4 : Int} {G : KG} {I : KI} {Q : KQ} (h : kWP xs true d 0 0 37 0 [(0, 13, 0, 3)] [] G I (fun r1 G1 I1 => (r1 ≤ v4 → Q v3 G1 I1) ∧ (v4 < r1 → kWP xs true d 0 0 79 0 [(0, 16, 0, 11), (1, 0, 0, v4)] [] G1 I1 (fun _ G2 I2 => kWP xs true d 0 0 130 0 [(0, 4, 43, 16)] [] G2 I2 (fun r3 G3 I3 => (r3 = 0 → kWP xs true (d + 1) 0 0 140 49 [(0, 18, 0, 0), (2, 2, 0, 0), (3, 0, 0, v3), (4, 0, 0, w32 (v4 + 1))] [] G3 I3 Q) ∧ (r3 ≠ 0 → kWP xs true (d + 1) 0 0 140 49 [(0, 18, 0, 0), (2, 2, 0, 0), (3, 0, 0, w32 (v3 + 1)), (4, 0, 0, w32 (v4 + 1))] [] G3 I3 Q)))))) : kWP xs true (d + 1) 0 0 140 49 [(0, 18, 0, 0), (2, 2, 0, 0), (3, 0, 0, v3), (4, 0, 0, v4)] [] G I Q := kRun kc_C_countWays [(49, [0, 2, 3, 4])] 400 49 rfl h
def pget (ps : List Pic) (i : Nat) : Pic := ps.getD i ([], [])
def CPs (xs : KS) (ps : List Pic) (I : KI) : Prop := I 0 3 = (ps.length : Int) ∧ ps.length ≤ 12 ∧ ∀ i : Nat, i < ps.length → CPic (2 + (39 + 4 * (i : Int))) (pget ps i) I ∧ (I (2 + (39 + 4 * (i : Int))) 3 ≠ 0 → ∀ k : Nat, k < 43 → I (2 + (39 + 4 * (i : Int)) + 3) (k : Int) = val xs (pget ps i) (plm (pget ps i).2) k)
/-- only what is at hand, and kept sums, may change -/
def sfr (I I' : KI) : Prop := ∀ a k, ¬ (3 ≤ a ∧ a < 20) → ¬ (41 ≤ a ∧ a < 89) → I' a k = I a k
theorem sfr.tr {I J K : KI} (h : sfr I J) (g : sfr J K) : sfr I K := fun a k h1 h2 => (g a k h1 h2).trans (h a k h1 h2)
theorem sfr.rf (I : KI) : sfr I I := fun _ _ _ _ => rfl
/-- only what sums are worked out in, and kept sums, may change -/
def ufr (I I' : KI) : Prop := ∀ a k, ¬ (11 ≤ a ∧ a < 17) → ¬ (41 ≤ a ∧ a < 89) → I' a k = I a k
theorem ufr.tr {I J K : KI} (h : ufr I J) (g : ufr J K) : ufr I K := fun a k h1 h2 => (g a k h1 h2).trans (h a k h1 h2)
theorem ufr.rf (I : KI) : ufr I I := fun _ _ _ _ => rfl
theorem ufr.sf {I J : KI} (h : ufr I J) : sfr I J := fun a k n1 n2 => h a k (by omega) n2
theorem kfr.uf {I J : KI} (h : kfr 11 17 I J) : ufr I J := fun a k n1 _ => h a k (by omega)
theorem kfr.sf {lo hi : Int} {I J : KI} (h : kfr lo hi I J) (h1 : 3 ≤ lo) (h2 : hi ≤ 20) : sfr I J := fun a k n1 _ => h a k (by omega)
theorem CPs.fr {xs : KS} {ps : List Pic} {I J : KI} (h : CPs xs ps I) (hf : ∀ a k, a = 0 ∨ (41 ≤ a ∧ a < 89) → J a k = I a k) : CPs xs ps J := by
  obtain ⟨h1, h2, h3⟩ := h
  refine ⟨by rw [hf _ _ (by omega)]; exact h1, h2, fun i hi => ⟨(h3 i hi).1.moved ⟨hf _ _ (by omega), hf _ _ (by omega), hf _ _ (by omega), hf _ _ (by omega)⟩ (fun k _ _ => hf _ _ (by omega)), fun h4 k hk => ?_⟩⟩
  rw [hf _ _ (by omega)] at h4 ⊢
  exact (h3 i hi).2 h4 k hk
theorem CPs.kfr {xs : KS} {ps : List Pic} {I J : KI} {lo hi : Int} (h : CPs xs ps I) (hf : kfr lo hi I J) (h1 : 1 ≤ lo) (h2 : hi ≤ 41) : CPs xs ps J := h.fr (fun a k hk => hf a k (by omega))
theorem t_C_sumAt {xs : KS} {d i : Nat} {ps : List Pic} {G : KG} {I : KI} {Q : KQ} (hx : (xs 0).1 = 64) (hS : CPs xs ps I) (hi : i < ps.length) (hR : RgOk (pget ps i))
    (h : ∀ I' : KI, CPs xs ps I' → (∀ k : Nat, k < 43 → I' (2 + (39 + 4 * (i : Int)) + 3) (k : Int) = val xs (pget ps i) (plm (pget ps i).2) k) → ufr I I' → Q (2 + (39 + 4 * (i : Int)) + 3) G I') : kWP xs true (d + 3) 0 0 127 0 [(0, 18, 0, 0), (1, 13, 0, (2 + (39 + 4 * (i : Int))))] [] G I Q := by
  have h0 := hS
  obtain ⟨h1, h2, h3⟩ := hS
  refine t_C_sumOf hx (h3 i hi).1 (by omega) hR (h3 i hi).2 (fun J hV hf => h J ⟨by rw [hf _ _ (by omega) (by omega) (by omega)]; exact h1, h2, fun j hj => ?_⟩ hV (fun a k n1 n2 => hf a k (by omega) (by omega) (by omega)))
  refine ⟨(h3 j hj).1.moved ⟨hf _ _ (by omega) (by omega) (by omega), hf _ _ (by omega) (by omega) (by omega), hf _ _ (by omega) (by omega) (by omega), hf _ _ (by omega) (by omega) (by omega)⟩ (fun k _ _ => hf _ _ (by omega) (by omega) (by omega)), fun h4 k hk => ?_⟩
  by_cases hij : j = i
  · subst hij; exact hV k hk
  · rw [hf _ _ (by omega) (by omega) (by omega)] at h4 ⊢
    exact (h3 j hj).2 h4 k hk
def cwA (xs : KS) (P : Pic) (t : (Nat → Int) → Bool) : Nat → Nat
  | 0 => 0
  | j + 1 => cwA xs P t j + (if t (val xs P j) = true then 1 else 0)
theorem cwA_le {xs : KS} {P : Pic} {t : (Nat → Int) → Bool} : ∀ j, cwA xs P t j ≤ j
  | 0 => Nat.le_refl 0
  | j + 1 => by have := cwA_le (xs := xs) (P := P) (t := t) j; unfold cwA; split <;> omega
/-- what is wanted: the plain ring, or a picture's sum -/
def wnt (xs : KS) (ps : List Pic) (what : Int) : (Nat → Int) → Bool := if what < 0 then isPl else fun V => eqV V (val xs (pget ps what.toNat) (plm (pget ps what.toNat).2))
def cwW (xs : KS) (ps : List Pic) (P : Pic) (what : Int) : Nat := if what = -2 then 2 ^ P.2.length else cwA xs P (wnt xs ps what) (2 ^ P.2.length)
theorem t_C_countWays {xs : KS} {d : Nat} {what : Int} {P : Pic} {ps : List Pic} {G : KG} {I : KI} {Q : KQ} (hx : (xs 0).1 = 64) (hP : CPic 3 P I) (hR : RgOk P) (hS : CPs xs ps I) (hR2 : ∀ i, i < ps.length → RgOk (pget ps i)) (hw : -2 ≤ what ∧ what < ps.length)
    (h : ∀ I' : KI, CPs xs ps I' → ufr I I' → Q (cwW xs ps P what : Int) G I') : kWP xs true (d + 4) 0 0 140 0 [(0, 18, 0, 0), (1, 0, 0, what)] [] G I Q := by
  have h7 := pw7 hP.1
  refine b_C_countWays_0 ⟨fun hn2 => ⟨fun hneg => ?_, fun hpos => ?_⟩, fun hn2 => ?_⟩
  · refine t_Sums_cutS hP (by omega) (fun J0 hC0 hf0 => ?_)
    have e : cwW xs ps P what = cwA xs P isPl (2 ^ P.2.length) := by unfold cwW wnt; rw [if_neg hn2, if_pos hneg]
    rw [e] at h
    refine loop_up (n := 2 ^ P.2.length) (W := fun j => ∀ J : KI, CSm 11 P J → kfr 11 17 I J → kWP xs true (d + 4) 0 0 140 49 [(0, 18, 0, 0), (2, 2, 0, 0), (3, 0, 0, (cwA xs P isPl j : Int)), (4, 0, 0, (j : Int))] [] G J Q) ?_ ?_ (Nat.zero_le _) J0 hC0 (hf0.w (by omega) (by omega))
    · intro J hC hf
      exact b_C_countWays_49n (t_Picture_ways (hP.fr hf (by omega)) ⟨fun _ => h J (hS.kfr hf (by omega) (by omega)) hf.uf, fun h1 => by omega⟩)
    · intro j hj ih J hC hf
      have e1 : w32 ((j : Int) + 1) = ((j + 1 : Nat) : Int) := by rw [w32_id (by omega) (by omega)]; omega
      have hA := cwA_le (xs := xs) (P := P) (t := isPl) j
      refine b_C_countWays_49n (t_Picture_ways (hP.fr hf (by omega)) ⟨fun h1 => by omega, fun _ => t_Sums_workS hx hC hR hj (fun J2 hC2 hV2 hf2 => t_C_isPlain hV2 ?_)⟩)
      rw [e1]
      have ih := ih J2 hC2 (hf.tr (hf2.w (by omega) (by omega)))
      unfold cwA at ih
      cases hb : isPl (val xs P j) with
      | false => rw [if_neg (by rw [hb]; simp)] at ih; exact ⟨fun _ => ih, fun hh => absurd rfl hh⟩
      | true =>
        rw [if_pos hb] at ih
        refine ⟨fun hh => absurd hh (by decide), fun _ => ?_⟩
        rw [w32_id (by omega) (by omega)]
        exact ih
  · obtain ⟨i, rfl⟩ : ∃ i : Nat, what = i := ⟨what.toNat, by omega⟩
    have hi : i < ps.length := by omega
    have e : cwW xs ps P (i : Int) = cwA xs P (fun V => eqV V (val xs (pget ps i) (plm (pget ps i).2))) (2 ^ P.2.length) := by unfold cwW wnt; rw [if_neg hn2, if_neg (by omega)]; rfl
    rw [e] at h
    have h12 := hS.2.1
    refine ⟨by omega, t_C_sumAt hx hS hi (hR2 i hi) (fun J0 hS0 hV0 hf0 => ?_)⟩
    have hP0 : CPic 3 P J0 := hP.moved ⟨hf0 _ _ (by omega) (by omega), hf0 _ _ (by omega) (by omega), hf0 _ _ (by omega) (by omega), hf0 _ _ (by omega) (by omega)⟩ (fun k _ _ => hf0 _ _ (by omega) (by omega))
    refine t_Sums_cutS hP0 (by omega) (fun J1 hC1 hf1 => ?_)
    refine loop_up (n := 2 ^ P.2.length) (W := fun j => ∀ J : KI, CSm 11 P J → kfr 11 17 J0 J → kWP xs true (d + 4) 0 0 140 49 [(0, 18, 0, 0), (2, 4, 43, (2 + (39 + 4 * (i : Int)) + 3)), (3, 0, 0, (cwA xs P (fun V => eqV V (val xs (pget ps i) (plm (pget ps i).2))) j : Int)), (4, 0, 0, (j : Int))] [] G J Q) ?_ ?_ (Nat.zero_le _) J1 hC1 (hf1.w (by omega) (by omega))
    · intro J hC hf
      exact b_C_countWays_49 (t_Picture_ways (hP0.fr hf (by omega)) ⟨fun _ => h J (hS0.kfr hf (by omega) (by omega)) (hf0.tr hf.uf), fun h1 => by omega⟩)
    · intro j hj ih J hC hf
      have e1 : w32 ((j : Int) + 1) = ((j + 1 : Nat) : Int) := by rw [w32_id (by omega) (by omega)]; omega
      have hA := cwA_le (xs := xs) (P := P) (t := fun V => eqV V (val xs (pget ps i) (plm (pget ps i).2))) j
      refine b_C_countWays_49 (t_Picture_ways (hP0.fr hf (by omega)) ⟨fun h1 => by omega, fun _ => t_Sums_workS hx hC hR hj (fun J2 hC2 hV2 hf2 => t_C_areAlike (W := val xs (pget ps i) (plm (pget ps i).2)) hV2 (fun k hk => ?_) ?_)⟩)
      · rw [hf2 _ _ (by omega), hf _ _ (by omega)]; exact hV0 k hk
      · rw [e1]
        have ih := ih J2 hC2 (hf.tr (hf2.w (by omega) (by omega)))
        unfold cwA at ih
        cases hb : eqV (val xs P j) (val xs (pget ps i) (plm (pget ps i).2)) with
        | false => rw [if_neg (by rw [hb]; simp)] at ih; exact ⟨fun _ => ih, fun hh => absurd rfl hh⟩
        | true =>
          rw [if_pos hb] at ih
          refine ⟨fun hh => absurd hh (by decide), fun _ => ?_⟩
          rw [w32_id (by omega) (by omega)]
          exact ih
  · have e : cwW xs ps P what = 2 ^ P.2.length := by unfold cwW; rw [if_pos hn2]
    rw [e] at h
    exact t_Picture_ways hP (h I hS (ufr.rf _))
theorem CPs.upd {xs : KS} {ps : List Pic} {I J : KI} {i : Nat} {R : Pic} (h : CPs xs ps I) (hi : i < ps.length) (hf : ∀ a k, a ≠ 2 + (39 + 4 * (i : Int)) → a ≠ 2 + (39 + 4 * (i : Int)) + 1 → (a = 0 ∨ (41 ≤ a ∧ a < 89)) → J a k = I a k) (hR : CPic (2 + (39 + 4 * (i : Int))) R J) (h3 : J (2 + (39 + 4 * (i : Int))) 3 = 0) : CPs xs (ps.set i R) J := by
  obtain ⟨c1, c2, c3⟩ := h
  refine ⟨by rw [hf _ _ (by omega) (by omega) (by omega), List.length_set]; exact c1, by rw [List.length_set]; exact c2, fun j hj => ?_⟩
  rw [List.length_set] at hj
  unfold pget
  by_cases hij : j = i
  · subst hij
    rw [List.getD_eq_getElem?_getD, List.getElem?_set_self hj]
    exact ⟨hR, fun h4 => absurd h3 h4⟩
  · rw [List.getD_eq_getElem?_getD, List.getElem?_set_ne (by omega), ← List.getD_eq_getElem?_getD]
    refine ⟨(c3 j hj).1.moved ⟨hf _ _ (by omega) (by omega) (by omega), hf _ _ (by omega) (by omega) (by omega), hf _ _ (by omega) (by omega) (by omega), hf _ _ (by omega) (by omega) (by omega)⟩ (fun k _ _ => hf _ _ (by omega) (by omega) (by omega)), fun h4 k hk => ?_⟩
    rw [hf _ _ (by omega) (by omega) (by omega)] at h4 ⊢
    exact (c3 j hj).2 h4 k hk
theorem t_C_isPicture {xs : KS} {d : Nat} {v : Int} {ps : List Pic} {G : KG} {I : KI} {Q : KQ} (hS : CPs xs ps I) (h : Q (bi (decide (0 ≤ v ∧ v < ps.length))) G I) : kWP xs true (d) 0 0 120 0 [(0, 18, 0, 0), (1, 0, 0, v)] [] G I Q := by
  refine b_C_isPicture_0 ?_
  rw [hS.1]
  refine ⟨fun h1 => ?_, fun h1 => ⟨fun h2 => ?_, fun h2 => ?_⟩⟩
  · rw [decide_eq_false (by omega)] at h; exact h
  · rw [decide_eq_false (by omega)] at h; exact h
  · rw [decide_eq_true (by omega)] at h; exact h
theorem t_C_changeAgain {xs : KS} {d i c : Nat} {ps : List Pic} {G : KG} {I : KI} {Q : KQ} (hS : CPs xs ps I) (hi : i < ps.length) (hc : c < (pget ps i).2.length) (h : ∀ I' : KI, CPs xs (ps.set i (chg (pget ps i) c)) I' → (∀ a k, ¬ (41 ≤ a ∧ a < 89) → I' a k = I a k) → Q 0 G I') : kWP xs true (d + 1) 0 0 141 0 [(0, 18, 0, 0), (1, 0, 0, ((10 * i + c : Nat) : Int))] [] G I Q := by
  have h12 := hS.2.1
  have hP := (hS.2.2 i hi).1
  have h7 := hP.1
  refine b_C_changeAgain_0 ⟨by omega, ?_⟩
  have e1 : kidiv ((10 * i + c : Nat) : Int) 10 = (i : Int) := by
    have := kidiv_n (a := 10 * i + c) (b := 10) (by omega) (by omega) (by omega)
    rw [show ((10 : Nat) : Int) = 10 from rfl] at this
    rw [this]; omega
  have e2 : kirem ((10 * i + c : Nat) : Int) 10 = (c : Int) := by
    have := kirem_n (a := 10 * i + c) (b := 10) (by omega) (by omega) (by omega)
    rw [show ((10 : Nat) : Int) = 10 from rfl] at this
    rw [this]; omega
  rw [e1, e2]
  refine t_C_isPicture hS ⟨fun h1 => ?_, fun _ => ⟨by omega, by omega, t_Picture_changeAt hP hc (fun J hJ hf h3 => h J (hS.upd hi (fun a k n1 _ _ => hf a k (by omega)) hJ h3) (fun a k n1 => hf a k (by omega)))⟩⟩
  rw [decide_eq_true (by omega)] at h1
  exact absurd h1 (by decide)
theorem t_C_addMade {xs : KS} {d : Nat} {R : Pic} {ps : List Pic} {G : KG} {I : KI} {Q : KQ} (hS : CPs xs ps I) (hl : ps.length < 12) (hR : CPic 3 R I) (h : ∀ I' : KI, CPs xs (ps ++ [R]) I' → (∀ a k, ¬ (41 ≤ a ∧ a < 89) → ¬ (a = 0 ∧ k = 3) → I' a k = I a k) → Q (ps.length : Int) G I') : kWP xs true (d + 1) 0 0 125 0 [(0, 18, 0, 0)] [] G I Q := by
  obtain ⟨c1, c2, c3⟩ := hS
  refine b_C_addMade_0 ?_
  rw [c1]
  refine ⟨fun _ => ⟨by omega, t_Picture_copy hR (by omega) (fun J hJ hf h3 J1 e1 => ?_)⟩, fun h1 => by omega⟩
  have g : J 0 3 = (ps.length : Int) := by rw [hf _ _ (by omega)]; exact c1
  rw [g] at e1 ⊢
  rw [w32_id (by omega) (by omega)] at e1
  have hf1 : ∀ a k, ¬ (a = 0 ∧ k = 3) → J1 a k = J a k := fun a k n => by rw [e1, kst_n (by omega)]
  refine h J1 ⟨by rw [e1, kst_s, List.length_append, List.length_singleton]; omega, by rw [List.length_append, List.length_singleton]; omega, fun j hj => ?_⟩ (fun a k n1 n2 => by rw [hf1 _ _ n2]; exact hf _ _ (by omega))
  rw [List.length_append, List.length_singleton] at hj
  unfold pget
  by_cases hij : j = ps.length
  · subst hij
    rw [List.getD_eq_getElem?_getD, List.getElem?_append_right (Nat.le_refl _), Nat.sub_self]
    refine ⟨hJ.moved ⟨hf1 _ _ (by omega), hf1 _ _ (by omega), hf1 _ _ (by omega), hf1 _ _ (by omega)⟩ (fun k _ _ => hf1 _ _ (by omega)), fun h4 => absurd ?_ h4⟩
    rw [hf1 _ _ (by omega)]; exact h3
  · rw [List.getD_eq_getElem?_getD, List.getElem?_append_left (by omega), ← List.getD_eq_getElem?_getD]
    have hj2 : j < ps.length := by omega
    refine ⟨(c3 j hj2).1.moved ⟨?_, ?_, ?_, ?_⟩ (fun k _ _ => ?_), fun h4 k hk => ?_⟩
    · rw [hf1 _ _ (by omega), hf _ _ (by omega)]
    · rw [hf1 _ _ (by omega), hf _ _ (by omega)]
    · rw [hf1 _ _ (by omega), hf _ _ (by omega)]
    · rw [hf1 _ _ (by omega), hf _ _ (by omega)]
    · rw [hf1 _ _ (by omega), hf _ _ (by omega)]
    · rw [hf1 _ _ (by omega), hf _ _ (by omega)] at h4 ⊢
      exact (c3 j hj2).2 h4 k hk
