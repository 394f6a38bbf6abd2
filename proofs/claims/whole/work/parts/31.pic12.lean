/-! PICTURES read -/
def rst (P : Pic) (c : Nat) (o s : Bool) : Pic := (bst (List.range P.2.length, P) c o s).2
theorem idx_range {c : Nat} : ∀ {n : Nat}, c < n → (List.range n).idxOf c = c
  | 0, h => absurd h (Nat.not_lt_zero c)
  | n + 1, h => by
    rw [List.range_succ, List.idxOf_append]
    by_cases hc : c < n
    · rw [if_pos (List.mem_range.mpr hc)]; exact idx_range hc
    · rw [if_neg (fun hm => hc (List.mem_range.mp hm))]
      have : c = n := by omega
      subst this
      simp
theorem rst_nm {P : Pic} {c : Nat} {o s : Bool} (h : c ≤ P.2.length) : bst (List.range P.2.length, P) c o s = (List.range (rst P c o s).2.length, rst P c o s) := by
  unfold rst bst
  by_cases hc : c < P.2.length
  · rw [if_pos (List.mem_range.mpr hc)]
  · rw [if_neg (fun hm => hc (List.mem_range.mp hm))]
    have : c = P.2.length := by omega
    subst this
    simp only [List.length_append, List.length_singleton]
    rw [List.range_succ]
theorem rst_vis {P : Pic} {c : Nat} {o s : Bool} (h : c ≤ P.2.length) : (rst P c o s).1 = P.1 ++ [(c, o)] := by
  unfold rst bst
  by_cases hc : c < P.2.length
  · rw [if_pos (List.mem_range.mpr hc)]
    simp only [idx_range hc]
  · rw [if_neg (fun hm => hc (List.mem_range.mp hm))]
    have : c = P.2.length := by omega
    subst this
    simp
theorem rst_sg {P : Pic} {c : Nat} {o s : Bool} : (rst P c o s).2 = if c < P.2.length then P.2 else P.2 ++ [s] := by
  unfold rst bst
  by_cases hc : c < P.2.length
  · rw [if_pos (List.mem_range.mpr hc), if_pos hc]
  · rw [if_neg (fun hm => hc (List.mem_range.mp hm)), if_neg hc]
/-- no visit twice -/
def RdP (P : Pic) : Prop := P.1.Nodup ∧ ∀ q ∈ P.1, q.1 < 7
theorem rd_lt {P : Pic} {c : Nat} {o : Bool} (hP : RdP P) (hc : c < 7) (hn : (c, o) ∉ P.1) : P.1.length < 14 := by
  have h1 : (((c, o) :: P.1).map (fun q => 2 * q.1 + (if q.2 then 1 else 0))).Nodup := by
    rw [List.nodup_iff_pairwise_ne, List.pairwise_map]
    have : ((c, o) :: P.1).Nodup := List.nodup_cons.mpr ⟨hn, hP.1⟩
    rw [List.nodup_iff_pairwise_ne] at this
    exact this.imp (fun {a b} hab e => hab (by
      obtain ⟨a1, a2⟩ := a
      obtain ⟨b1, b2⟩ := b
      simp only at e
      cases a2 <;> cases b2 <;> simp at e ⊢ <;> omega))
  have h2 := nd_le 14 _ h1 (fun x hx => by
    obtain ⟨⟨a1, a2⟩, ha, rfl⟩ := List.mem_map.mp hx
    have : a1 < 7 := by
      rcases List.mem_cons.mp ha with e | ha
      · rw [Prod.mk.injEq] at e; omega
      · exact hP.2 _ ha
    cases a2 <;> simp <;> omega)
  simp at h2
  omega
theorem plc_not {P : Pic} {c : Nat} {b : Bool} (h : plc P c b < 0) : (c, b) ∉ P.1 := by
  intro hm
  obtain ⟨j, hj, e⟩ := List.getElem_of_mem hm
  have h1 : fnd (fun k => decide (pcx P k = c) && (pov P k == b)) P.1.length < P.1.length := fnd_lt hj (by
    have e2 : P.1.getD j (0, false) = (c, b) := by rw [List.getD_eq_getElem?_getD, List.getElem?_eq_getElem hj, e]; rfl
    show (decide (pcx P j = c) && (pov P j == b)) = true
    unfold pcx pov
    rw [e2]; simp)
  unfold plc fnI at h
  rw [if_pos h1] at h
  omega
theorem rst_rd {P : Pic} {c : Nat} {o s : Bool} (hP : RdP P) (h : c ≤ P.2.length) (hc : c < 7) (hn : (c, o) ∉ P.1) : RdP (rst P c o s) := by
  unfold RdP
  rw [rst_vis h]
  refine ⟨List.nodup_append.mpr ⟨hP.1, by simp, fun a ha b hb e => ?_⟩, fun q hq => ?_⟩
  · rw [List.mem_singleton.mp hb] at e; subst e; exact hn ha
  · rcases List.mem_append.mp hq with hq | hq
    · exact hP.2 q hq
    · rw [List.mem_singleton.mp hq]; exact hc
theorem mcm_out {P : Pic} {c : Int} {b : Bool} (h : mcm P c b = true) : 0 ≤ c ∧ c ≤ P.2.length ∧ c < 7 ∧ plc P c.toNat b < 0 := by
  unfold mcm at h
  simp only [Bool.and_eq_true, decide_eq_true_eq] at h
  exact ⟨h.1.1.1, h.1.1.2, h.1.2, h.2⟩
def rdz (x : Int) : Int := w32 (if 0 ≤ w32 x then w32 x else 0 - w32 x)
def rdc (x : Int) : Int := w32 (kidiv (rdz x) 10 - 1)
def rdd (x : Int) : Int := kirem (rdz x) 10
/-- one number of a row of visits -/
def rdS (P : Pic) (x : Int) : Option Pic :=
  if rdd x ≤ 1 ∧ mcm P (rdc x) (decide (rdd x = 1)) = true ∧ (rdc x < P.2.length → psg P (rdc x).toNat = decide (0 < w32 x)) then some (rst P (rdc x).toNat (decide (rdd x = 1)) (decide (0 < w32 x))) else none
def rdR (f : Nat → Int) : Nat → Option Pic
  | 0 => some ([], [])
  | j + 1 => (rdR f j).bind (fun P => rdS P (f j))
theorem rdR_none {f : Nat → Int} {j : Nat} (h : rdR f j = none) : ∀ {n}, j ≤ n → rdR f n = none
  | 0, hj => by rw [show j = 0 by omega] at h; exact h
  | n + 1, hj => by
    by_cases hn : j = n + 1
    · rw [← hn]; exact h
    · show (rdR f n).bind _ = none
      rw [rdR_none h (n := n) (by omega)]; rfl
/-- the picture that a row tells -/
def rdW (f : Nat → Int) (n : Nat) : Option Pic := match rdR f n with
  | some P => if P.1.length = 2 * P.2.length then some P else none
  | none => none
theorem t_Picture_readRow {xs : KS} {d : Nat} {p e : Int} {a n : Nat} {f : Nat → Int} {G : KG} {I : KI} {Q : KQ} (he : p + 3 ≤ e ∨ e < p) (hf0 : ∀ k, k < n → I e ((a + k : Nat) : Int) = f k) (hn : a + n ≤ 60)
    (h0 : rdW f n = none → ∀ (P : Pic) (I' : KI), CPic p P I' → kfr p (p + 3) I I' → I' p 3 = 0 → Q 0 G I') (h1 : ∀ (P : Pic) (I' : KI), rdW f n = some P → RdP P → CPic p P I' → kfr p (p + 3) I I' → I' p 3 = 0 → Q 1 G I') : kWP xs true (d + 3) 0 0 47 0 [(0, 13, 0, p), (1, 5, 60, e), (2, 0, 0, (a : Int)), (3, 0, 0, (n : Int))] [] G I Q := by
  refine b_Picture_readRow_0 (t_Picture_begin (fun J hB0 hf0' hs0 => ?_))
  refine loop_up (n := n) (W := fun j => ∀ (P : Pic) (J : KI), rdR f j = some P → RdP P → CBld p (List.range P.2.length, P) J → kfr p (p + 3) I J → J p 3 = 0 → kWP xs true (d + 3) 0 0 47 7 [(0, 13, 0, p), (1, 5, 60, e), (2, 0, 0, (a : Int)), (3, 0, 0, (n : Int)), (4, 0, 0, (j : Int))] [] G J Q) ?_ ?_ (Nat.zero_le _) ([], []) J rfl ⟨by simp, by simp⟩ hB0 hf0' hs0
  · intro P J hR hd hB hf hs
    refine b_Picture_readRow_7 ⟨fun _ => t_Picture_isWhole hB.1 ?_, fun h2 => by omega⟩
    by_cases hw : P.1.length = 2 * P.2.length
    · rw [decide_eq_true hw]
      exact h1 P J (by unfold rdW; rw [hR]; exact if_pos hw) hd hB.1 hf hs
    · rw [decide_eq_false hw]
      exact h0 (by unfold rdW; rw [hR]; exact if_neg hw) P J hB.1 hf hs
  · intro j hj ih P J hR hd hB hf hs
    have hB1 : CPic p P J := hB.1
    have hel : J e (w32 ((a : Int) + j)) = f j := by
      rw [w32_id (by omega) (by omega), hf _ _ (by omega), ← hf0 j hj]
      rw [show (a : Int) + j = ((a + j : Nat) : Int) by omega]
    have hbad : rdS P (f j) = none → Q 0 G J := fun hb => by
      have e1 : rdR f (j + 1) = none := by
        show (rdR f j).bind _ = none
        rw [hR]; exact hb
      have e2 := rdR_none e1 (n := n) (by omega)
      exact h0 (by unfold rdW; rw [e2]) P J hB1 hf hs
    have at52 : ∀ o : Bool, o = decide (rdd (f j) = 1) → kWP xs true (d + 3) 0 0 47 52 [(0, 13, 0, p), (1, 5, 60, e), (2, 0, 0, (a : Int)), (3, 0, 0, (n : Int)), (4, 0, 0, (j : Int)), (5, 0, 0, w32 (f j)), (6, 0, 0, rdz (f j)), (7, 0, 0, rdc (f j))] [(0, 0, bi o)] G J Q := by
      intro o ho
      refine b_Picture_readRow_52 ⟨by omega, fun h2 => hbad ?_, fun h2 => t_Picture_mayCome hB1 ⟨fun h3 => ?_, fun h3 => hbad ?_⟩⟩
      · unfold rdS
        rw [if_neg (fun hh => ?_)]
        have := hh.1
        unfold rdd at this
        omega
      · have h3 := bi1 h3
        obtain ⟨m1, m2, m3, m4⟩ := mcm_out h3
        generalize hx : f j = x at *
        have hc : (((rdc x).toNat : Nat) : Int) = rdc x := by omega
        have hnot := plc_not m4
        have hgo : ∀ s : Bool, s = decide (0 < w32 x) → (rdc x < P.2.length → psg P (rdc x).toNat = s) → kWP xs true (d + 2) 0 0 33 0 [(0, 13, 0, p), (1, 0, 0, rdc x), (2, 0, 0, bi o), (3, 0, 0, bi s)] [] G J (fun _ G1 I1 => kWP xs true (d + 3) 0 0 47 7 [(0, 13, 0, p), (1, 5, 60, e), (2, 0, 0, (a : Int)), (3, 0, 0, (n : Int)), (4, 0, 0, (w32 ((j : Int) + 1)))] [] G1 I1 Q) := by
          intro s hse hsg
          have hS : rdS P x = some (rst P (rdc x).toNat o s) := by
            unfold rdS
            rw [← ho, ← hse, if_pos ⟨h2, h3, hsg⟩]
          rw [← hc]
          refine t_Picture_visit hB (by omega) (rd_lt hd (by omega) hnot) (fun hni => ?_) (fun J' hB' hf' hs' => ?_)
          · rw [List.length_range]
            have : ¬ (rdc x).toNat < P.2.length := fun hh => hni (List.mem_range.mpr hh)
            omega
          · rw [w32_id (by omega) (by omega)]
            rw [rst_nm (by omega)] at hB'
            refine ih _ J' ?_ (rst_rd hd (by omega) (by omega) hnot) hB' (hf.tr hf') (by rw [hs']; exact hs)
            show (rdR f j).bind _ = _
            rw [hR]
            show rdS P (f j) = _
            rw [hx]; exact hS
        refine ⟨fun h4 => ?_, fun h4 => ?_⟩
        · rw [hB1.2.2.1] at h4
          refine ⟨fun h5 => hgo false (by rw [decide_eq_false (by omega)]) (fun h6 => by omega), fun h5 => hgo true (by rw [decide_eq_true (by omega)]) (fun h6 => by omega)⟩
        · rw [hB1.2.2.1] at h4
          rw [← hc]
          refine t_Picture_isPlus hB1 (by omega) ⟨fun h5 => ⟨fun h6 => ?_, fun h6 => ?_⟩, fun h5 => ⟨fun h6 => ?_, fun h6 => ?_⟩⟩
          · have h6 := bi0 h6
            rw [hc]
            exact ⟨fun _ => hgo false (by rw [decide_eq_false (by omega)]) (fun _ => h6), fun h7 => by omega⟩
          · have h6 := bi1 h6
            refine hbad ?_
            unfold rdS
            rw [if_neg (fun hh => ?_)]
            have := hh.2.2 (by omega)
            rw [h6, decide_eq_false (by omega)] at this
            exact absurd this (by simp)
          · rw [hc]
            have h6 : psg P (rdc x).toNat = true := by
              cases hb : psg P (rdc x).toNat with
              | true => rfl
              | false => rw [hb] at h6; simp [bi] at h6
            exact ⟨fun h7 => by omega, fun _ => hgo true (by rw [decide_eq_true (by omega)]) (fun _ => h6)⟩
          · have h6 : psg P (rdc x).toNat = false := by
              cases hb : psg P (rdc x).toNat with
              | true => rw [hb] at h6; simp [bi] at h6
              | false => rfl
            refine hbad ?_
            unfold rdS
            rw [if_neg (fun hh => ?_)]
            have := hh.2.2 (by omega)
            rw [h6, decide_eq_true (by omega)] at this
            exact absurd this (by simp)
      · have h3 := bi0 h3
        unfold rdS
        rw [if_neg (fun hh => ?_)]
        have := hh.2.1
        rw [← ho, h3] at this
        exact absurd this (by simp)
    refine b_Picture_readRow_7 ⟨fun h2 => by omega, fun _ => ⟨?_, by omega, by omega, fun h2 => ?_, fun h2 => ?_⟩⟩
    · rw [w32_id (by omega) (by omega)]; omega
    · rw [hel] at h2 ⊢
      exact at52 false (decide_eq_false (show ¬ rdd (f j) = 1 from h2)).symm
    · rw [hel] at h2 ⊢
      exact at52 true (decide_eq_true (show rdd (f j) = 1 from h2)).symm
