/-! THE MODEL: crossings taken out, and moves till there is none -/
theorem vlw_s (P : Pic) (g j : Nat) : vlw P g (j + 1) = if g.testBit (pcx P j) = true then vlw P g j else vlw P g j ++ [vof P j] := by
  unfold vlw
  rw [List.range_succ, List.filter_append, List.map_append]
  by_cases h : g.testBit (pcx P j) = true
  · rw [if_pos h]; simp [h]
  · rw [if_neg h]; simp [h]
theorem vlw_le (P : Pic) (g : Nat) : ∀ j, (vlw P g j).length ≤ j
  | 0 => Nat.le_refl 0
  | j + 1 => by
    have := vlw_le P g j
    rw [vlw_s]
    split
    · omega
    · rw [List.length_append, List.length_singleton]; omega
theorem vlw_mem {P : Pic} {g j : Nat} {q : Nat × Bool × Bool} (h : q ∈ vlw P g j) : ∃ k, k < j ∧ q = vof P k := by
  obtain ⟨k, hk, e⟩ := List.mem_map.mp h
  exact ⟨k, List.mem_range.mp (List.mem_filter.mp hk).1, e.symm⟩
theorem vq_mem {l : VL} {k : Nat} (h : k < l.length) : vq l k ∈ l := by rw [vq_get h]; exact List.getElem_mem h
theorem vq_app {l m : VL} {k : Nat} (h : k < l.length) : vq (l ++ m) k = vq l k := by
  unfold vq
  rw [List.getD_eq_getElem?_getD, List.getD_eq_getElem?_getD, List.getElem?_append_left h]
theorem vq_last {l : VL} {q : Nat × Bool × Bool} : vq (l ++ [q]) l.length = q := by
  unfold vq
  rw [List.getD_eq_getElem?_getD, List.getElem?_append_right (Nat.le_refl _), Nat.sub_self]; rfl
theorem wot_len {P : Pic} {g : Nat} (hW : PicOk (wot P g)) : (vlw P g P.1.length).length = 2 * (wot P g).2.length := by
  have hok := bld_ok (l := vlw P g P.1.length) _ (Nat.le_refl _)
  rw [List.take_length] at hok
  rw [← hW.len, ← hok.1]; rfl
theorem t_M_takesOut {xs : KS} {d g : Nat} {P : Pic} {G : KG} {I : KI} {Q : KQ} (hP : MHd P I) (hok : PicOk P) (hW : PicOk (wot P g)) (hg : g < 128)
    (h : ∀ I' : KI, MHd (wot P g) I' → (∀ a k, ¬ (a = 101 ∧ k = 5) → ¬ (106 ≤ a ∧ a ≤ 110) → I' a k = I a k) → Q 0 G I') : kWP xs true (d + 1) 0 0 209 0 [(0, 19, 0, 101), (1, 0, 0, (g : Int))] [] G I Q := by
  obtain ⟨p1, p2, p3, p4, p5⟩ := hP
  have hwl := wot_len hW
  have hw7 := hW.1
  refine b_M_takesOut_0 ?_
  refine loop_up (n := P.1.length) (W := fun j => ∀ J : KI, (∀ k : Nat, k < (vlw P g j).length → J 106 (k : Int) = ((vq (vlw P g j) k).1 : Int) ∧ J 107 (k : Int) = bi (vq (vlw P g j) k).2.1) → (∀ k : Nat, j ≤ k → k < P.1.length → J 106 (k : Int) = (pcx P k : Int) ∧ J 107 (k : Int) = bi (pov P k)) → (∀ a k, a ≠ 106 → a ≠ 107 → J a k = I a k) → kWP xs true (d + 1) 0 0 209 4 [(0, 19, 0, 101), (1, 0, 0, (g : Int)), (2, 0, 0, ((vlw P g j).length : Int)), (3, 0, 0, (j : Int))] [] G J Q) ?_ ?_ (Nat.zero_le _) I (fun k hk => absurd hk (Nat.not_lt_zero k)) (fun k _ hk => p4 k hk) (fun _ _ _ _ => rfl)
  · intro J hJ _ hf
    have hle := vlw_le P g P.1.length
    refine b_M_takesOut_4 ?_
    rw [hf _ _ (by omega) (by omega), p3, w32_id (x := 2 * (P.2.length : Int)) (by omega) (by omega)]
    refine ⟨fun _ => ⟨by omega, fun J1 e1 => ?_⟩, fun hh => by omega⟩
    rw [show (2 : Int) = ((2 : Nat) : Int) from rfl, kidiv_n (by omega) (by omega) (by omega), show (vlw P g P.1.length).length / 2 = (wot P g).2.length by omega] at e1
    refine t_M_numbersAnew (l := vlw P g P.1.length) (n := (wot P g).2.length) ⟨hw7, hwl, by rw [e1, kst_s], fun k hk => ?_⟩ rfl (fun J2 hP2 hf2 => h J2 hP2 (fun a k n1 n2 => by rw [hf2 _ _ (by omega) (by omega), e1, kst_n (by omega)]; exact hf a k (by omega) (by omega)))
    obtain ⟨x, y⟩ := hJ k hk
    obtain ⟨m, hm, e⟩ := vlw_mem (vq_mem hk)
    have hlt := hok.lt hm
    have p5m := p5 _ hlt
    refine ⟨by rw [e1, kst_n (by omega)]; exact x, by rw [e1, kst_n (by omega)]; exact y, ?_, ?_⟩
    · rw [e]; show pcx P m < 7; omega
    · rw [e, e1, kst_n (by omega), hf _ _ (by omega) (by omega)]; exact p5m
  · intro j hj ih J hJ hR hf
    have hle := vlw_le P g j
    obtain ⟨r1, r2⟩ := hR j (Nat.le_refl _) hj
    have hlt := hok.lt hj
    refine b_M_takesOut_4 ?_
    rw [hf 101 5 (by omega) (by omega), p3, w32_id (x := 2 * (P.2.length : Int)) (by omega) (by omega), r1, kbit_n (by omega) (by omega), w32_inc (k := j) (by omega)]
    refine ⟨fun hh => by omega, fun _ => ⟨by omega, fun h5 => ?_, fun h5 => ?_⟩⟩
    · have hb : g.testBit (pcx P j) = true := by
        cases hb : g.testBit (pcx P j) with
        | true => rfl
        | false => rw [hb] at h5; exact absurd rfl h5
      rw [vlw_s, if_pos hb] at ih
      exact ih J hJ (fun k a b => hR k (by omega) b) hf
    · have hb : ¬ g.testBit (pcx P j) = true := fun hb => by rw [hb] at h5; exact absurd h5 (by decide)
      rw [vlw_s, if_neg hb] at ih
      rw [List.length_append, List.length_singleton] at ih
      refine ⟨by omega, by omega, fun K1 e1 => ⟨by omega, by omega, ?_⟩⟩
      have k1 : K1 107 (j : Int) = bi (pov P j) := by rw [e1, kst_n (by omega)]; exact r2
      rw [k1, w32_inc (k := (vlw P g j).length) (by omega)]
      refine kzr_bi (fun K2 e2 => ih K2 (fun k hk => ?_) (fun k a b => ?_) (fun a k n1 n2 => by rw [e2, kst_n (by omega), e1, kst_n (by omega)]; exact hf a k n1 n2))
      · by_cases q : k = (vlw P g j).length
        · rw [q, vq_last]
          exact ⟨by rw [e2, kst_n (by omega), e1, kst_s]; rfl, by rw [e2, kst_s]; rfl⟩
        · rw [vq_app (by omega), e2, kst_n (by omega), kst_n (by omega), e1, kst_n (by omega), kst_n (by omega)]
          exact hJ k (by omega)
      · rw [e2, kst_n (by omega), kst_n (by omega), e1, kst_n (by omega), kst_n (by omega)]
        exact hR k (by omega) b
theorem gbm_bit {P : Pic} (h : gbm P ≠ 0) : ∃ c, c < P.2.length ∧ (gbm P).testBit c = true := by
  unfold gbm at h ⊢
  by_cases c1 : gb1 P < P.2.length
  · rw [if_pos c1]; exact ⟨_, c1, by rw [Nat.testBit_two_pow_self]⟩
  · rw [if_neg c1] at h ⊢
    by_cases c2 : gbc P < P.2.length
    · rw [if_pos c2]; exact ⟨_, c2, by rw [Nat.testBit_or, Nat.testBit_two_pow_self]; rfl⟩
    · rw [if_neg c2] at h; exact absurd rfl h
theorem vlw_lt {P : Pic} {g k : Nat} (hb : g.testBit (pcx P k) = true) : ∀ j, k < j → (vlw P g j).length < j
  | 0, h => absurd h (Nat.not_lt_zero k)
  | j + 1, h => by
    have hle := vlw_le P g j
    rw [vlw_s]
    by_cases e : k = j
    · rw [← e, if_pos hb]; rw [← e] at hle; omega
    · have := vlw_lt hb j (by omega)
      split
      · omega
      · rw [List.length_append, List.length_singleton]; omega
theorem wot_lt {P : Pic} (hok : PicOk P) (hW : PicOk (wot P (gbm P))) (h : gbm P ≠ 0) : (wot P (gbm P)).2.length < P.2.length := by
  obtain ⟨c, hc, hb⟩ := gbm_bit h
  obtain ⟨k, hk, e⟩ := List.mem_iff_getElem.mp ((hok.2.2.1 c true).mpr hc)
  have ep : pcx P k = c := by
    unfold pcx
    rw [List.getD_eq_getElem?_getD, List.getElem?_eq_getElem hk]
    show P.1[k].1 = c
    rw [e]
  have h1 := vlw_lt (P := P) (g := gbm P) (k := k) (by rw [ep]; exact hb) P.1.length hk
  have h2 := wot_len hW
  have h3 := hok.len
  omega
/-- what the calls of moves may change -/
def wfr (I I' : KI) : Prop := ∀ a k, ¬ (a = 101 ∧ k = 5) → ¬ (106 ≤ a ∧ a ≤ 110) → I' a k = I a k
theorem t_M_simplifies {xs : KS} {d : Nat} {P : Pic} {G : KG} {I : KI} {Q : KQ} (hO : Owed) (hP : MHd P I) (hok : PicOk P)
    (h : ∀ I' : KI, MHd (smpL 7 P).2 I' → wfr I I' → Q ((smpL 7 P).1 : Int) G I') : kWP xs true (d + 3) 0 0 210 0 [(0, 19, 0, 101)] [] G I Q := by
  refine b_M_simplifies_0 ?_
  suffices key : ∀ (u i : Nat) (R : Pic) (J : KI), R.2.length ≤ u → i + u ≤ 7 → PicOk R → MHd R J → wfr I J → (∃ w, i + w = 7 ∧ u ≤ w ∧ (i + (smpL w R).1, (smpL w R).2) = smpL 7 P) → kWP xs true (d + 3) 0 0 210 4 [(0, 19, 0, 101), (1, 0, 0, (i : Int)), (2, 0, 0, 1)] [] G J Q from key 7 0 P I hok.1 (Nat.le_refl _) hok hP (fun _ _ _ _ => rfl) ⟨7, rfl, Nat.le_refl _, by rw [Nat.zero_add]⟩
  intro u
  induction u with
  | zero =>
    intro i R J hu hi hR hPJ hf ⟨w, hw1, hw2, hw3⟩
    have g0 : gbm R = 0 := by
      unfold gbm
      rw [if_neg (by omega), if_neg (by omega)]
    have e : (i, R) = smpL 7 P := by
      rw [← hw3]
      cases w with
      | zero => rfl
      | succ w => show _ = (i + (if gbm R = 0 then (0, R) else _ : Nat × Pic).1, (if gbm R = 0 then (0, R) else _ : Nat × Pic).2); rw [if_pos g0]; rfl
    refine b_M_simplifies_4 ⟨fun hh => absurd hh (by decide), fun _ => t_M_oneMove hPJ hR.pwh ?_⟩
    unfold onM
    rw [if_neg (by omega)]
    refine ⟨fun hh => absurd hh (by decide), fun _ => t_M_twoMove hPJ hR.pwh ?_⟩
    unfold twM
    rw [if_neg (by omega)]
    refine b_M_simplifies_25 ⟨fun hh => absurd hh (by decide), fun _ => ⟨fun _ => ⟨fun _ => b_M_simplifies_4 ⟨fun _ => ?_, fun hh => absurd rfl hh⟩, fun hh => absurd rfl hh⟩, fun hh => absurd hh (by decide)⟩⟩
    rw [← e] at h
    exact h J hPJ hf
  | succ u ih =>
    intro i R J hu hi hR hPJ hf ⟨w, hw1, hw2, hw3⟩
    have hn7 := hR.1
    obtain ⟨v, rfl⟩ : ∃ v, w = v + 1 := ⟨w - 1, by omega⟩
    have g128 := hR.g128
    -- a move made
    have go : gbm R ≠ 0 → kWP xs true (d + 2) 0 0 209 0 [(0, 19, 0, 101), (1, 0, 0, (gbm R : Int))] [] G J (fun _ G1 I1 => kWP xs true (d + 3) 0 0 210 4 [(0, 19, 0, 101), (1, 0, 0, w32 ((i : Int) + 1)), (2, 0, 0, 1)] [] G1 I1 Q) := fun hg => by
      have hW := hO.2.2 R hR hg
      have hlt := wot_lt hR hW hg
      refine t_M_takesOut hPJ hR hW g128 (fun J1 hP1 hf1 => ?_)
      rw [w32_inc (by omega)]
      rw [smpL_s hg] at hw3
      exact ih (i + 1) _ J1 (by omega) (by omega) hW hP1 (fun a k n1 n2 => by rw [hf1 a k n1 n2]; exact hf a k n1 n2) ⟨v, by omega, by omega, by rw [← hw3]; simp only; rw [show i + 1 + (smpL v (wot R (gbm R))).1 = i + ((smpL v (wot R (gbm R))).1 + 1) by omega]⟩
    refine b_M_simplifies_4 ⟨fun hh => absurd hh (by decide), fun _ => t_M_oneMove hPJ hR.pwh ?_⟩
    unfold onM
    by_cases c1 : gb1 R < R.2.length
    · have eg : gbm R = 2 ^ gb1 R := by unfold gbm; rw [if_pos c1]
      rw [if_pos c1]
      refine ⟨fun _ => b_M_simplifies_25 ⟨fun _ => ⟨fun hh => absurd hh (by decide), fun _ => ⟨fun hh => by omega, fun _ => ?_⟩⟩, fun hh => by omega⟩, fun hh => by omega⟩
      rw [kishl_n (by omega), ← eg]
      exact go (by rw [eg]; exact Nat.ne_of_gt (Nat.two_pow_pos _))
    · rw [if_neg c1]
      refine ⟨fun hh => absurd hh (by decide), fun _ => t_M_twoMove hPJ hR.pwh ?_⟩
      unfold twM
      by_cases c2 : gbc R < R.2.length
      · have hs := fnd_spec (f := fun c => decide (gbf R c < R.2.length)) c2
        have hlt : gbf R (gbc R) < R.2.length := of_decide_eq_true hs
        have eg : gbm R = 2 ^ gbc R ||| 2 ^ gbf R (gbc R) := by unfold gbm; rw [if_neg c1, if_pos c2]
        have gne : gbm R ≠ 0 := fun hz => by
          have := congrArg (fun n => n.testBit (gbc R)) (eg.symm.trans hz)
          simp only [Nat.testBit_or, Nat.testBit_two_pow_self, Bool.true_or, Nat.zero_testBit] at this
          cases this
        have q1 : 2 ^ gbc R ≤ 128 := pw7 (by omega)
        have q2 : 2 ^ gbf R (gbc R) ≤ 128 := pw7 (by omega)
        rw [if_pos c2, show 10 * (gbc R : Int) + (gbf R (gbc R) : Int) = ((10 * gbc R + gbf R (gbc R) : Nat) : Int) by omega]
        refine b_M_simplifies_25 ⟨fun hh => absurd hh (by decide), fun _ => ⟨fun hh => by omega, fun _ => ⟨fun hh => absurd hh (by decide), fun _ => ⟨fun _ => ⟨by decide, by decide, ?_⟩, fun hh => absurd hh (by decide)⟩⟩⟩⟩
        rw [show (10 : Int) = ((10 : Nat) : Int) from rfl, kidiv_n (by omega) (by omega) (by omega), kirem_n (by omega) (by omega) (by omega), show (10 * gbc R + gbf R (gbc R)) / 10 = gbc R by omega, show (10 * gbc R + gbf R (gbc R)) % 10 = gbf R (gbc R) by omega, kishl_n (by omega), kishl_n (by omega), kior_n (by omega) (by omega), ← eg]
        exact go gne
      · have g0 : gbm R = 0 := by unfold gbm; rw [if_neg c1, if_neg c2]
        rw [if_neg c2]
        have e : (i, R) = smpL 7 P := by
          rw [← hw3]
          show _ = (i + (if gbm R = 0 then (0, R) else _ : Nat × Pic).1, (if gbm R = 0 then (0, R) else _ : Nat × Pic).2)
          rw [if_pos g0]; rfl
        refine b_M_simplifies_25 ⟨fun hh => absurd hh (by decide), fun _ => ⟨fun _ => ⟨fun _ => b_M_simplifies_4 ⟨fun _ => ?_, fun hh => absurd rfl hh⟩, fun hh => absurd rfl hh⟩, fun hh => absurd hh (by decide)⟩⟩
        rw [← e] at h
        exact h J hPJ hf
