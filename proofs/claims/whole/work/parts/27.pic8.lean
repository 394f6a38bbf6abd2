/-! PICTURES: the first move, parts -/
def gb1 (P : Pic) : Nat := fnd (fun c => fol P.1.length (pln P c true) (pln P c false)) P.2.length
def gbf (P : Pic) (c : Nat) : Nat := fnd (fun e => decide (c < e) && gb2 P c e) P.2.length
def gbc (P : Pic) : Nat := fnd (fun c => decide (gbf P c < P.2.length)) P.2.length
def gbm (P : Pic) : Nat := if gb1 P < P.2.length then 2 ^ gb1 P else if gbc P < P.2.length then 2 ^ gbc P ||| 2 ^ gbf P (gbc P) else 0
theorem bi0 {b : Bool} (h : bi b = 0) : b = false := by cases b <;> simp [bi] at h ⊢
theorem bi1 {b : Bool} (h : bi b ≠ 0) : b = true := by cases b <;> simp [bi] at h ⊢
theorem fnd_lt {f : Nat → Bool} {n k : Nat} (hk : k < n) (h : f k = true) : fnd f n < n := by
  rcases Nat.lt_or_ge (fnd f n) n with h1 | h1
  · exact h1
  · have h2 := fnd_min (f := f) (n := n) (j := k) (by omega)
    rw [h2] at h; cases h
theorem t_Picture_goneByMove {xs : KS} {d : Nat} {p : Int} {P : Pic} {G : KG} {I : KI} {Q : KQ} (hP : CPic p P I) (hW : pwh P) (h : Q (gbm P : Int) G I) : kWP xs true (d + 3) 0 0 60 0 [(0, 13, 0, p)] [] G I Q := by
  have h7 := hP.1
  have hl := hP.2.1
  have hn := hP.2.2.1
  have hm := hP.2.2.2.1
  refine b_Picture_goneByMove_0 ?_
  refine loop_up (n := P.2.length) (W := fun j => (∀ i, i < j → fol P.1.length (pln P i true) (pln P i false) = false) → kWP xs true (d + 3) 0 0 60 2 [(0, 13, 0, p), (1, 0, 0, (j : Int))] [] G I Q) ?_ ?_ (Nat.zero_le _) (fun i hi => absurd hi (Nat.not_lt_zero i))
  · intro hi
    have h1 : gb1 P = P.2.length := fnd_none hi
    unfold gbm at h
    rw [if_neg (by omega)] at h
    refine b_Picture_goneByMove_2 ⟨fun _ => ?_, fun h1 => by omega⟩
    refine loop_up (n := P.2.length) (W := fun j => (∀ i, i < j → decide (gbf P i < P.2.length) = false) → kWP xs true (d + 3) 0 0 60 41 [(0, 13, 0, p), (1, 0, 0, (j : Int))] [] G I Q) ?_ ?_ (Nat.zero_le _) (fun i hi => absurd hi (Nat.not_lt_zero i))
    · intro hi
      have h2 : gbc P = P.2.length := fnd_none hi
      rw [if_neg (by omega)] at h
      exact b_Picture_goneByMove_41 ⟨fun _ => h, fun h1 => by omega⟩
    · intro c hc ih hi
      refine b_Picture_goneByMove_41 ⟨fun h1 => by omega, fun _ => ?_⟩
      rw [w32_id (by omega) (by omega)]
      have inner : ∀ e, e ≤ P.2.length → (∀ i, i < e → (decide (c < i) && gb2 P c i) = false) → c < e → kWP xs true (d + 3) 0 0 60 53 [(0, 13, 0, p), (1, 0, 0, (c : Int)), (2, 0, 0, (e : Int))] [] G I Q := by
        intro e he
        refine loop_up (n := P.2.length) (W := fun e => (∀ i, i < e → (decide (c < i) && gb2 P c i) = false) → c < e → kWP xs true (d + 3) 0 0 60 53 [(0, 13, 0, p), (1, 0, 0, (c : Int)), (2, 0, 0, (e : Int))] [] G I Q) ?_ ?_ he
        · intro hi2 _
          have h3 : gbf P c = P.2.length := fnd_none hi2
          refine b_Picture_goneByMove_53 ⟨fun _ => ?_, fun h1 => by omega⟩
          rw [w32_id (by omega) (by omega)]
          refine ih (fun i hi3 => ?_)
          by_cases hic : i = c
          · subst hic; exact decide_eq_false (by omega)
          · exact hi i (by omega)
        · intro e he ih2 hi2 hce
          refine b_Picture_goneByMove_53 ⟨fun h1 => by omega, fun _ => t_Picture_goneByTwo hP hW hc he ⟨fun h1 => ?_, fun h1 => ?_⟩⟩
          · rw [w32_id (by omega) (by omega)]
            refine ih2 (fun i hi3 => ?_) (by omega)
            by_cases hie : i = e
            · subst hie; rw [bi0 h1]; simp
            · exact hi2 i (by omega)
          · have h3 : gbf P c = e := fnd_eq he (by rw [bi1 h1, decide_eq_true hce]; rfl) hi2
            have h4 : gbc P = c := fnd_eq hc (decide_eq_true (by omega)) hi
            rw [if_pos (by omega), h4, h3] at h
            have e1 : 2 ^ c < 2147483648 := by have := Nat.pow_lt_pow_right (a := 2) (by omega) (show c < 31 by omega); simpa using this
            have e2 : 2 ^ e < 2147483648 := by have := Nat.pow_lt_pow_right (a := 2) (by omega) (show e < 31 by omega); simpa using this
            rw [kishl_n (by omega), kishl_n (by omega), kior_n e1 e2]
            exact h
      refine inner (c + 1) (by omega) (fun i hi2 => ?_) (by omega)
      rw [decide_eq_false (by omega)]; rfl
  · intro c hc ih hi
    refine b_Picture_goneByMove_2 ⟨fun h1 => by omega, fun _ => t_Picture_visitOf (b := true) hP (t_Picture_visitOf (b := false) hP ?_)⟩
    rw [plc_pln hW hc, plc_pln hW hc]
    refine t_Picture_follow hm hl (hW c hc true) (hW c hc false) ⟨fun h1 => ?_, fun h1 => ?_⟩
    · rw [w32_id (by omega) (by omega)]
      refine ih (fun i hi2 => ?_)
      by_cases hic : i = c
      · subst hic; exact bi0 h1
      · exact hi i (by omega)
    · have h3 : gb1 P = c := fnd_eq hc (bi1 h1) hi
      unfold gbm at h
      rw [if_pos (by omega), h3] at h
      rw [kishl_n (by omega)]
      exact h
/-- the crossings met an odd number of times among so many visits -/
def odx (P : Pic) (f : Nat) : Nat → Nat
  | 0 => 0
  | i + 1 => odx P f i ^^^ 2 ^ pcx P ((f + i) % P.1.length)
theorem odx_lt {P : Pic} (h : ∀ k, k < P.1.length → pcx P k < 7) (hm : 0 < P.1.length) (f : Nat) : ∀ i, odx P f i < 128
  | 0 => by unfold odx; omega
  | i + 1 => by
    unfold odx
    have := odx_lt h hm f i
    have h2 := h _ (Nat.mod_lt (f + i) hm)
    exact Nat.xor_lt_two_pow (n := 7) this (Nat.pow_lt_pow_right (by omega) h2)
def fop (P : Pic) (len : Nat) : Int := fnI (fun f => decide (odx P f len = 0)) P.1.length
theorem t_Picture_firstOfPart {xs : KS} {d : Nat} {p : Int} {P : Pic} {len : Nat} {G : KG} {I : KI} {Q : KQ} (hP : CPic p P I) (hlen : len ≤ 14) (h : Q (fop P len) G I) : kWP xs true (d) 0 0 63 0 [(0, 13, 0, p), (1, 0, 0, (len : Int))] [] G I Q := by
  have hl := hP.2.1
  have hm := hP.2.2.2.1
  have hc := hP.2.2.2.2.1
  refine b_Picture_firstOfPart_0 ?_
  refine loop_up (n := P.1.length) (W := fun f => (∀ i, i < f → decide (odx P i len = 0) = false) → kWP xs true (d) 0 0 63 2 [(0, 13, 0, p), (1, 0, 0, (len : Int)), (2, 0, 0, (f : Int))] [] G I Q) ?_ ?_ (Nat.zero_le _) (fun i hi => absurd hi (Nat.not_lt_zero i))
  · intro hi
    refine b_Picture_firstOfPart_2 ⟨fun _ => ?_, fun h1 => by omega⟩
    unfold fop fnI at h
    rw [fnd_none hi, if_neg (by omega)] at h
    exact h
  · intro f hf ih hi
    have hm0 : 0 < P.1.length := by omega
    refine b_Picture_firstOfPart_2 ⟨fun h1 => by omega, fun _ => ?_⟩
    have inner : ∀ i, i ≤ len → kWP xs true (d) 0 0 63 15 [(0, 13, 0, p), (1, 0, 0, (len : Int)), (2, 0, 0, (f : Int)), (3, 0, 0, (odx P f i : Int)), (4, 0, 0, (i : Int))] [] G I Q := by
      intro i hi2
      refine loop_up (n := len) (W := fun i => kWP xs true (d) 0 0 63 15 [(0, 13, 0, p), (1, 0, 0, (len : Int)), (2, 0, 0, (f : Int)), (3, 0, 0, (odx P f i : Int)), (4, 0, 0, (i : Int))] [] G I Q) ?_ ?_ hi2
      · refine b_Picture_firstOfPart_15 ⟨fun _ => ⟨fun h1 => ?_, fun h1 => ?_⟩, fun h1 => by omega⟩
        · rw [w32_id (by omega) (by omega)]
          refine ih (fun i hi3 => ?_)
          by_cases hif : i = f
          · subst hif; exact decide_eq_false (by omega)
          · exact hi i (by omega)
        · have h2 : fnd (fun f => decide (odx P f len = 0)) P.1.length = f := fnd_eq hf (decide_eq_true (by omega)) hi
          unfold fop fnI at h
          rw [h2, if_pos hf] at h
          exact h
      · intro i hi2 ih2
        have ho := odx_lt (fun k hk => (hc k hk).2) hm0 f i
        have hmod := Nat.mod_lt (f + i) hm0
        have hcc := hc _ hmod
        refine b_Picture_firstOfPart_15 ⟨fun h1 => by omega, fun _ => ?_⟩
        rw [hm, w32_id (x := (f : Int) + i) (by omega) (by omega), w32_id (x := (i : Int) + 1) (by omega) (by omega)]
        rw [show (f : Int) + (i : Int) = ((f + i : Nat) : Int) by omega, kirem_n (by omega) hm0 (by omega), hcc.1]
        refine ⟨by omega, ⟨by omega, by omega⟩, ?_⟩
        have e1 : 2 ^ pcx P ((f + i) % P.1.length) < 2147483648 := by have := Nat.pow_lt_pow_right (a := 2) (by omega) (show pcx P ((f + i) % P.1.length) < 31 by omega); simpa using this
        rw [kishl_n (by omega), kixor_n (by omega) e1]
        exact ih2
    exact inner 0 (Nat.zero_le _)
