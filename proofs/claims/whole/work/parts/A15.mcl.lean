/-! THE MODEL: plaits closed -/
def MCl (l : VL) (I : KI) : Prop := I 101 27 = (l.length : Int) ∧ ∀ k : Nat, k < l.length → I 106 (k : Int) = ((vq l k).1 : Int) ∧ I 107 (k : Int) = bi (vq l k).2.1
/-- what closing may change -/
def kfl (I I' : KI) : Prop := ∀ a k, ¬ (a = 101 ∧ (k = 5 ∨ k = 27)) → ¬ (106 ≤ a ∧ a ≤ 110) → I' a k = I a k
theorem kfl.ms {I J : KI} (h : kfl I J) : mscr I J := fun a k n1 n2 => h a k (by omega) (by omega)
theorem kfl.tr {I J K : KI} (h : kfl I J) (g : kfl J K) : kfl I K := fun a k h1 h2 => (g a k h1 h2).trans (h a k h1 h2)
theorem goa_s (ws : Nat → Nat) (i : Nat) (S : VL × Nat) : goa ws (i + 1) S = stg ws i (goa ws i S) := rfl
theorem sml2 {x : Nat} (h : x < 100) : kirem (x : Int) 2 = ((x % 2 : Nat) : Int) := kirem_n (b := 2) (by omega) (by omega) (by omega)
theorem smd2 {x : Nat} (h : x < 100) : kidiv (x : Int) 2 = ((x / 2 : Nat) : Int) := kidiv_n (b := 2) (by omega) (by omega) (by omega)
theorem t_M_closes {xs : KS} {d n m : Nat} {ws : Nat → Nat} {G : KG} {I : KI} {Q : KQ} (hw : ∀ k : Nat, k < n → I 120 (k : Int) = (ws k : Int) ∧ ws k < 2 * m - 2) (hL : I 101 29 = (n : Int)) (hS : I 101 30 = (m : Int)) (hm2 : 2 ≤ m) (hm : m ≤ 4) (hn : n ≤ 7)
    (h0 : clO ws n m = false → ∀ I' : KI, kfl I I' → Q 0 G I') (h1 : clO ws n m = true → ∀ I' : KI, MHd (clP ws n m) I' → kfl I I' → Q 1 G I') : kWP xs true (d + 1) 0 0 193 0 [(0, 19, 0, 101)] [] G I Q := by
  have hw2 : ∀ k, k < n → ws k < 2 * m - 2 := fun k hk => (hw k hk).2
  obtain ⟨c1, c2, c3⟩ := cls_ok hm2 hm hn hw2
  have hlt : ∀ k, k < n → ws k < 6 := fun k hk => by have := hw2 k hk; omega
  refine b_M_closes_0 (fun J0 e0 J1 e1 => ?_)
  rw [hL] at e0
  have hf1 : kfl I J1 := fun a k n1 n2 => by rw [e1, kst_n (by omega), e0, kst_n (by omega)]
  have h51 : J1 101 5 = (n : Int) := by rw [e1, kst_n (by omega), e0, kst_s]
  have hC1 : MCl [] J1 := ⟨by rw [e1, kst_s]; rfl, fun k hk => absurd hk (Nat.not_lt_zero k)⟩
  -- behind the rounds
  have tail : ∀ J : KI, clO ws n m = true → kfl I J → J 101 5 = (n : Int) → MCl (clS ws n m).1 J → kWP xs true (d + 1) 0 0 193 159 [(0, 19, 0, 101), (3, 0, 0, ((0 : Nat) : Int))] [] G J Q := by
    intro J hO hf h5 hC
    obtain ⟨l1, l2, l3, l4⟩ := cls_nm hm2 hm hn hw2 hO
    refine loop_up (n := n) (W := fun k => ∀ J : KI, kfl I J → J 101 5 = (n : Int) → MCl (clS ws n m).1 J → (∀ e : Nat, e < k → J 108 (e : Int) = sgi (decide (ws e % 2 = 0))) → kWP xs true (d + 1) 0 0 193 159 [(0, 19, 0, 101), (3, 0, 0, (k : Int))] [] G J Q) ?_ ?_ (Nat.zero_le _) J hf h5 hC (fun e he => absurd he (Nat.not_lt_zero e))
    · intro J hf h5 hC hs
      refine b_M_closes_159 ?_
      rw [hf 101 29 (by omega) (by omega), hL]
      refine ⟨fun _ => t_M_numbersAnew (n := n) (l := (clS ws n m).1) ⟨hn, l1, h5, fun k hk => ?_⟩ (bld_len l3) (fun J2 hP2 hf2 => ?_), fun hh => by omega⟩
      · have hq := l2 _ (vq_mem hk)
        have := hC.2 k hk
        refine ⟨this.1, this.2, by omega, ?_⟩
        rw [hs _ hq.1, hq.2]
      · refine h1 hO J2 ?_ (hf.tr (fun a k n1 n2 => hf2 a k (by omega) (by omega)))
        unfold clP
        rw [clP_l hO]
        exact hP2
    · intro k hk ih J hf h5 hC hs
      have hwk := hw k hk
      have h120 : J 120 (k : Int) = (ws k : Int) := by rw [hf _ _ (by omega) (by omega)]; exact hwk.1
      refine b_M_closes_159 ?_
      rw [hf 101 29 (by omega) (by omega), hL, h120, sml2 (by omega), w32_inc (by omega)]
      have go : ∀ (J2 : KI) (b : Bool), J2 = kst J 108 (k : Int) (sgi b) → b = decide (ws k % 2 = 0) → kWP xs true (d + 1) 0 0 193 159 [(0, 19, 0, 101), (3, 0, 0, ((k + 1 : Nat) : Int))] [] G J2 Q := fun J2 b e2 hb => by
        refine ih J2 (hf.tr (fun a x n1 n2 => by rw [e2, kst_n (by omega)])) (by rw [e2, kst_n (by omega)]; exact h5) ⟨by rw [e2, kst_n (by omega)]; exact hC.1, fun x hx => by rw [e2, kst_n (by omega), kst_n (by omega)]; exact hC.2 x hx⟩ (fun e he => ?_)
        rw [e2]
        by_cases hek : e = k
        · rw [hek, kst_s, hb]
        · rw [kst_n (by omega)]; exact hs e (by omega)
      refine ⟨fun hh => by omega, fun _ => ⟨by omega, by omega, fun g1 => ⟨by omega, fun J2 e2 => go J2 false e2 (decide_eq_false (by omega)).symm⟩, fun g1 => ⟨by omega, fun J2 e2 => go J2 true e2 (decide_eq_true (by omega)).symm⟩⟩⟩
  -- a round through the letters
  have round : ∀ (r : Nat) (J : KI), r ≤ clf ws n m → kfl I J → J 101 5 = (n : Int) → MCl (clS ws n r).1 J →
      (∀ J2 : KI, kfl I J2 → J2 101 5 = (n : Int) → MCl (clS ws n (r + 1)).1 J2 → (((clS ws n (r + 1)).2 : Int) ≠ 0 → kWP xs true (d + 1) 0 0 193 17 [(0, 19, 0, 101), (1, 0, 0, ((clS ws n (r + 1)).2 : Int)), (2, 0, 0, ((r + 1 : Nat) : Int))] [] G J2 Q) ∧ (((clS ws n (r + 1)).2 : Int) = 0 → (((r + 1 : Nat) : Int) = (m : Int) → kWP xs true (d + 1) 0 0 193 159 [(0, 19, 0, 101), (3, 0, 0, 0)] [] G J2 Q) ∧ (((r + 1 : Nat) : Int) ≠ (m : Int) → Q 0 G J2))) →
      kWP xs true (d + 1) 0 0 193 17 [(0, 19, 0, 101), (1, 0, 0, ((clS ws n r).2 : Int)), (2, 0, 0, (r : Int))] [] G J Q := by
    intro r J hr hf h5 hC hend
    have hlen := c2 r hr
    have hrm : r < 4 := by omega
    refine b_M_closes_17 ?_
    refine loop_up (n := n) (W := fun i => ∀ J : KI, kfl I J → J 101 5 = (n : Int) → MCl (goa ws i (clS ws n r)).1 J → (goa ws i (clS ws n r)).2 < 8 → kWP xs true (d + 1) 0 0 193 19 [(0, 19, 0, 101), (1, 0, 0, ((goa ws i (clS ws n r)).2 : Int)), (2, 0, 0, (r : Int)), (3, 0, 0, (i : Int))] [] G J Q) ?_ ?_ (Nat.zero_le _) J hf h5 hC (clS_lt hlt r)
    · intro J hf h5 hC h8
      refine b_M_closes_19 ?_
      rw [hf 101 29 (by omega) (by omega), hL, w32_inc (by omega), hf 101 30 (by omega) (by omega), hS]
      exact ⟨fun _ => hend J hf h5 hC, fun hh => by omega⟩
    · intro i hi ih J hf h5 hC h8
      have hwi := hw i hi
      have h120 : J 120 (i : Int) = (ws i : Int) := by rw [hf _ _ (by omega) (by omega)]; exact hwi.1
      have hmono : (goa ws (i + 1) (clS ws n r)).1.length ≤ 14 := Nat.le_trans (goa_le (by omega)) hlen
      have es := goa_s ws i (clS ws n r)
      generalize hT : goa ws i (clS ws n r) = T at *
      have h8' : (goa ws (i + 1) (clS ws n r)).2 < 8 := by rw [es]; exact stg_lt (hlt i hi) h8
      have at62 : ∀ (b : Bool) (pl : Nat), goa ws (i + 1) (clS ws n r) = (T.1 ++ [(i, b == decide (ws i % 2 = 0), decide (ws i % 2 = 0))], pl) → pl = (if b then ws i / 2 + 1 else ws i / 2) → kWP xs true (d + 1) 0 0 193 62 [(0, 19, 0, 101), (2, 0, 0, (r : Int)), (3, 0, 0, (i : Int)), (4, 0, 0, ((ws i / 2 : Nat) : Int))] [(0, 0, bi b)] G J Q := by
        intro b pl eT hpl
        rw [eT] at hmono ih h8'
        simp only [List.length_append, List.length_singleton] at hmono
        have h27 : J 101 27 = (T.1.length : Int) := hC.1
        refine b_M_closes_62 ?_
        rw [h27, w32_inc (by omega), w32_inc (by omega)]
        refine ⟨by omega, fun J2 e2 => ⟨by omega, by omega, ?_⟩⟩
        have a27 : J2 101 27 = (T.1.length : Int) := by rw [e2, kst_n (by omega)]; exact h27
        have a120 : J2 120 (i : Int) = (ws i : Int) := by rw [e2, kst_n (by omega)]; exact h120
        rw [a27, a120, sml2 (by omega)]
        have go : ∀ (J3 J4 : KI) (o : Bool) (x : Int), J3 = kst J2 107 (T.1.length : Int) x → x = bi o → o = (b == decide (ws i % 2 = 0)) → J4 = kst J3 101 27 (w32 (J3 101 27 + 1)) → (bi b = 0 → kWP xs true (d + 1) 0 0 193 19 [(0, 19, 0, 101), (1, 0, 0, ((ws i / 2 : Nat) : Int)), (2, 0, 0, (r : Int)), (3, 0, 0, ((i + 1 : Nat) : Int))] [] G J4 Q) ∧ (bi b ≠ 0 → kWP xs true (d + 1) 0 0 193 19 [(0, 19, 0, 101), (1, 0, 0, ((ws i / 2 + 1 : Nat) : Int)), (2, 0, 0, (r : Int)), (3, 0, 0, ((i + 1 : Nat) : Int))] [] G J4 Q) := by
          intro J3 J4 o x e3 ex ho e4
          have b27 : J3 101 27 = (T.1.length : Int) := by rw [e3, kst_n (by omega)]; exact a27
          rw [b27, w32_inc (by omega)] at e4
          have hC4 : MCl (T.1 ++ [(i, b == decide (ws i % 2 = 0), decide (ws i % 2 = 0))]) J4 := by
            refine ⟨by rw [e4, kst_s]; simp, fun k hk => ?_⟩
            simp only [List.length_append, List.length_singleton] at hk
            by_cases hkl : k = T.1.length
            · rw [hkl, vq_last]
              exact ⟨by rw [e4, kst_n (by omega), e3, kst_n (by omega), e2, kst_s], by rw [e4, kst_n (by omega), e3, kst_s, ex, ho]⟩
            · rw [vq_app (by omega)]
              have := hC.2 k (by omega)
              exact ⟨by rw [e4, kst_n (by omega), e3, kst_n (by omega), e2, kst_n (by omega)]; exact this.1, by rw [e4, kst_n (by omega), e3, kst_n (by omega), e2, kst_n (by omega)]; exact this.2⟩
          have q := ih J4 (hf.tr (fun a k n1 n2 => by rw [e4, kst_n (by omega), e3, kst_n (by omega), e2, kst_n (by omega)])) (by rw [e4, kst_n (by omega), e3, kst_n (by omega), e2, kst_n (by omega)]; exact h5) hC4 h8'
          refine ⟨fun hb => ?_, fun hb => ?_⟩
          · rw [bi0 hb] at hpl
            rw [hpl] at q
            exact q
          · rw [bi1 hb] at hpl
            rw [hpl] at q
            exact q
        refine ⟨fun g1 => ?_, fun g1 => ?_⟩
        · have hs : decide (ws i % 2 = 0) = false := decide_eq_false (by omega)
          refine ⟨fun g2 => ⟨by omega, fun J3 e3 J4 e4 => go J3 J4 false 0 e3 rfl (by rw [hs, bi1 g2]; rfl) e4⟩, fun g2 => ⟨by omega, fun J3 e3 J4 e4 => go J3 J4 true 1 e3 rfl (by rw [hs, bi0 g2]; rfl) e4⟩⟩
        · have hs : decide (ws i % 2 = 0) = true := decide_eq_true (by omega)
          refine ⟨fun g2 => ⟨by omega, fun J3 e3 J4 e4 => go J3 J4 false 0 e3 rfl (by
            have : b = false := by cases b with | false => rfl | true => exact absurd rfl g2
            rw [hs, this]; rfl) e4⟩, fun g2 => ⟨by omega, fun J3 e3 J4 e4 => go J3 J4 true 1 e3 rfl (by
            have : b = true := bi1 (by rw [g2]; decide)
            rw [hs, this]; rfl) e4⟩⟩
      have q : ∀ b : Bool, (decide (b = true) == decide (ws i % 2 = 0)) = (b == decide (ws i % 2 = 0)) := fun b => by cases b <;> rfl
      have hst : stg ws i T = if T.2 = ws i / 2 then (T.1 ++ [(i, decide (ws i % 2 = 0), decide (ws i % 2 = 0))], ws i / 2 + 1) else if T.2 = ws i / 2 + 1 then (T.1 ++ [(i, !(decide (ws i % 2 = 0)), decide (ws i % 2 = 0))], ws i / 2) else T := rfl
      refine b_M_closes_19 ?_
      rw [hf 101 29 (by omega) (by omega), hL, h120, smd2 (by omega)]
      refine ⟨fun hh => by omega, fun _ => ⟨by omega, by omega, fun g1 => b_M_closes_51 ⟨fun hh => absurd g1 hh, fun _ => at62 true (ws i / 2 + 1) ?_ rfl⟩, fun g1 => ?_⟩⟩
      · rw [es, hst, if_pos (by omega)]
        cases decide (ws i % 2 = 0) <;> rfl
      rw [w32_inc (by omega), w32_inc (by omega)]
      refine ⟨fun g2 => ?_, fun g2 => b_M_closes_51 ⟨fun _ => at62 false (ws i / 2) ?_ rfl, fun hh => absurd hh g1⟩⟩
      · have e2 : goa ws (i + 1) (clS ws n r) = T := by rw [es, hst, if_neg (by omega), if_neg (by omega)]
        rw [e2] at ih
        exact ih J hf h5 hC h8
      · rw [es, hst, if_neg (by omega), if_pos (by omega)]
        cases decide (ws i % 2 = 0) <;> rfl
  refine loop_up (n := clf ws n m) (W := fun r => ∀ J : KI, kfl I J → J 101 5 = (n : Int) → MCl (clS ws n r).1 J → kWP xs true (d + 1) 0 0 193 17 [(0, 19, 0, 101), (1, 0, 0, ((clS ws n r).2 : Int)), (2, 0, 0, (r : Int))] [] G J Q) ?_ ?_ (Nat.zero_le _) J1 hf1 h51 hC1
  · intro J hf h5 hC
    have hz := of_decide_eq_true (fnd_spec c1)
    change (clS ws n (clf ws n m + 1)).2 = 0 at hz
    refine round _ J (Nat.le_refl _) hf h5 hC (fun J2 hf2 h52 hC2 => ⟨fun hh => absurd hz (by omega), fun _ => ⟨fun g1 => ?_, fun g1 => ?_⟩⟩)
    · have hO : clO ws n m = true := decide_eq_true (by omega)
      have e : clf ws n m + 1 = m := by omega
      rw [e] at hC2
      exact tail J2 hO hf2 h52 hC2
    · exact h0 (decide_eq_false (by omega)) J2 hf2
  · intro r hr ih J hf h5 hC
    have hz := of_decide_eq_false (fnd_min (f := fun k => decide ((clS ws n (k + 1)).2 = 0)) (n := m) hr)
    exact round r J (by omega) hf h5 hC (fun J2 hf2 h52 hC2 => ⟨fun _ => ih J2 hf2 h52 hC2, fun hh => absurd hh (by omega)⟩)
