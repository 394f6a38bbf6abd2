/-! THE MODEL: pictures from rows -/
theorem w32_ww (x : Int) : w32 (w32 x) = w32 x := by unfold w32; omega
theorem rdS_some {P R : Pic} {x : Int} (h : rdS P x = some R) : rdd x ≤ 1 ∧ mcm P (rdc x) (decide (rdd x = 1)) = true ∧ (rdc x < P.2.length → psg P (rdc x).toNat = decide (0 < w32 x)) ∧ R = rst P (rdc x).toNat (decide (rdd x = 1)) (decide (0 < w32 x)) := by
  unfold rdS at h
  split at h
  · rename_i hc
    exact ⟨hc.1, hc.2.1, hc.2.2, (Option.some.inj h).symm⟩
  · cases h
theorem rdR_s (f : Nat → Int) (j : Nat) : rdR f (j + 1) = (rdR f j).bind (fun P => rdS P (f j)) := rfl
theorem rdR_len {f : Nat → Int} : ∀ (j : Nat) (P : Pic), rdR f j = some P → P.1.length = j
  | 0, P, h => by rw [← Option.some.inj h]; rfl
  | j + 1, R, h => by
    rw [rdR_s] at h
    cases hP : rdR f j with
    | none => rw [hP] at h; cases h
    | some P =>
      rw [hP] at h
      obtain ⟨_, m, _, e⟩ := rdS_some (show rdS P (f j) = some R from h)
      obtain ⟨m1, m2, _, _⟩ := mcm_out m
      rw [e, rst_vis (by omega), List.length_append, rdR_len j P hP]
      rfl
theorem rdR_mono {f : Nat → Int} {j : Nat} {P : Pic} (h : rdR f j = some P) : ∀ (m : Nat) (R : Pic), j ≤ m → rdR f m = some R → P.2.length ≤ R.2.length
  | 0, R, hj, hR => by
    have : j = 0 := by omega
    subst this
    rw [h] at hR
    rw [Option.some.inj hR]
    exact Nat.le_refl _
  | m + 1, R, hj, hR => by
    by_cases hjm : j = m + 1
    · subst hjm
      rw [h] at hR
      rw [Option.some.inj hR]
      exact Nat.le_refl _
    · rw [rdR_s] at hR
      cases hP : rdR f m with
      | none => rw [hP] at hR; cases hR
      | some P2 =>
        rw [hP] at hR
        have ih := rdR_mono h m P2 (by omega) hP
        obtain ⟨_, _, _, e⟩ := rdS_some (show rdS P2 (f m) = some R from hR)
        rw [e, rst_sg]
        split
        · exact ih
        · simp; omega
theorem rdW_big {f : Nat → Int} {j n : Nat} {P : Pic} (h : rdR f j = some P) (hj : j ≤ 2 * n) (hb : n < P.2.length) : rdW f (2 * n) = none := by
  unfold rdW
  cases hR : rdR f (2 * n) with
  | none => rfl
  | some R =>
    have h1 := rdR_len _ R hR
    have h2 := rdR_mono h _ R hj hR
    exact if_neg (by omega)
theorem rdW_bad {f : Nat → Int} {j n : Nat} (h : rdR f j = none) (hj : j ≤ n) : rdW f n = none := by
  unfold rdW
  rw [rdR_none h hj]
theorem rdc_0 {x : Int} (h : w32 x = 0) : rdc x = -1 := by
  unfold rdc rdz
  rw [h, if_pos (by omega)]
  decide
theorem t_M_readsRow {xs : KS} {d v i n : Nat} {f : Nat → Int} {G : KG} {I : KI} {Q : KQ} (hv : v < 6) (hn : n ≤ 7) (hi : i + 2 * n ≤ 60) (hf0 : ∀ k : Nat, k < 2 * n → I 127 ((60 * v + i + k : Nat) : Int) = f k)
    (h0 : rdW f (2 * n) = none → ∀ I' : KI, mscr I I' → Q 0 G I') (h1 : ∀ (P : Pic) (I' : KI), rdW f (2 * n) = some P → PicW P → MHd P I' → mscr I I' → Q 1 G I') : kWP xs true (d + 2) 0 0 191 0 [(0, 19, 0, 101), (1, 0, 0, (v : Int)), (2, 0, 0, (i : Int)), (3, 0, 0, (n : Int))] [] G I Q := by
  refine b_M_readsRow_0 (fun J0 e0 J1 e1 => ?_)
  have hf1 : mscr I J1 := fun a k n1 n2 => by rw [e1, kst_n (by omega), e0, kst_n (by omega)]
  have hR1 : MRd ([], []) J1 := ⟨by rw [e1, kst_n (by omega), e0, kst_s]; rfl, by rw [e1, kst_s]; rfl, fun k hk => absurd hk (Nat.not_lt_zero k), fun k hk => absurd hk (Nat.not_lt_zero k), fun k hk => absurd hk (Nat.not_lt_zero k)⟩
  refine loop_up (n := 2 * n) (W := fun j => ∀ (P : Pic) (J : KI), rdR f j = some P → RdQ P → P.2.length ≤ n → MRd P J → mscr I J → kWP xs true (d + 2) 0 0 191 13 [(0, 19, 0, 101), (1, 0, 0, (v : Int)), (2, 0, 0, (i : Int)), (3, 0, 0, (n : Int)), (4, 0, 0, (j : Int))] [] G J Q) ?_ ?_ (Nat.zero_le _) ([], []) J1 rfl RdQ.nil (by simp) hR1 hf1
  · intro P J hR hok hle hP hf
    refine b_M_readsRow_13 ?_
    rw [w32_id (x := 2 * (n : Int)) (by omega) (by omega)]
    refine ⟨fun _ => t_M_areWhole hP hok (kzr_bi ?_), fun hh => by omega⟩
    by_cases hw : P.1.length = 2 * P.2.length
    · rw [decide_eq_true hw]
      exact h1 P J (by unfold rdW; rw [hR]; exact if_pos hw) (hok.w hw) (hP.hd hok hw) hf
    · rw [decide_eq_false hw]
      exact h0 (by unfold rdW; rw [hR]; exact if_neg hw) J hf
  · intro j hj ih P J hR hok hle hP hf
    have h7 := hok.1
    have hcell : J 127 ((60 * v + i + j : Nat) : Int) = f j := by rw [hf _ _ (by omega) (by omega)]; exact hf0 j hj
    have hbad : rdS P (f j) = none → Q 0 G J := fun hb => h0 (rdW_bad (j := j + 1) (by rw [rdR_s, hR]; exact hb) (by omega)) J hf
    refine b_M_readsRow_13 ?_
    rw [w32_id (x := 2 * (n : Int)) (by omega) (by omega), w32_id (x := 60 * (v : Int)) (by omega) (by omega), w32_id (x := 60 * (v : Int) + (i : Int)) (by omega) (by omega), w32_id (x := 60 * (v : Int) + (i : Int) + (j : Int)) (by omega) (by omega), show 60 * (v : Int) + (i : Int) + (j : Int) = ((60 * v + i + j : Nat) : Int) by omega, hcell]
    generalize hx : f j = x at *
    have at67 : ∀ o : Bool, o = decide (rdd x = 1) → kWP xs true (d + 2) 0 0 191 67 [(0, 19, 0, 101), (1, 0, 0, (v : Int)), (2, 0, 0, (i : Int)), (3, 0, 0, (n : Int)), (4, 0, 0, (j : Int)), (5, 0, 0, w32 x), (6, 0, 0, rdz x)] [(0, 0, bi o)] G J Q := by
      intro o ho
      refine b_M_readsRow_67 ⟨by omega, by omega, fun g1 => b_M_readsRow_145 ⟨fun hh => absurd rfl hh, fun _ => hbad ?_⟩, fun g1 => ?_⟩
      · unfold rdS
        rw [if_neg (fun hh => ?_)]
        have := hh.1
        unfold rdd at this
        omega
      · rw [w32_id (x := (n : Int) - 1) (by omega) (by omega)]
        have ec : w32 (kidiv (rdz x) 10 - 1) = rdc x := rfl
        rw [ec]
        -- the sort of place does not come
        have nob : (mcm P (rdc x) (decide (rdd x = 1)) = true → (n : Int) ≤ rdc x) → Q 0 G J := fun hh => by
          by_cases hm : mcm P (rdc x) (decide (rdd x = 1)) = true
          · have hnc := hh hm
            obtain ⟨m1, m2, m3, m4⟩ := mcm_out hm
            cases hS : rdS P x with
            | none => exact hbad hS
            | some R =>
              obtain ⟨_, _, _, e⟩ := rdS_some hS
              refine h0 (rdW_big (j := j + 1) (P := R) (by rw [rdR_s, hR]; show rdS P (f j) = some R; rw [hx]; exact hS) (by omega) ?_) J hf
              rw [e, rst_sg, if_neg (by omega)]
              simp; omega
          · refine hbad ?_
            unfold rdS
            rw [if_neg (fun hh2 => hm hh2.2.1)]
        refine t_M_within ⟨fun g2 => b_M_readsRow_145 ⟨fun hh => absurd rfl hh, fun _ => nob (fun hm => ?_)⟩, fun g2 => t_M_mayCome hP hok ⟨fun g3 => b_M_readsRow_145 ⟨fun hh => absurd rfl hh, fun _ => nob (fun hm => ?_)⟩, fun g3 => ?_⟩⟩
        · have g2 := of_decide_eq_false (bi0 g2)
          obtain ⟨m1, m2, m3, m4⟩ := mcm_out hm
          omega
        · rw [← ho, bi0 g3] at hm; cases hm
        · have g2 := of_decide_eq_true (bi1 g2)
          have g3 := bi1 g3
          obtain ⟨m1, m2, m3, m4⟩ := mcm_out g3
          have hx0 : w32 x ≠ 0 := fun hh => by have := rdc_0 hh; omega
          obtain ⟨c, hc⟩ : ∃ c : Nat, (c : Int) = rdc x := ⟨(rdc x).toNat, by omega⟩
          rw [← hc] at m1 m2 m3 m4 g2 ⊢
          have hcf : (rdc x).toNat = c := by omega
          rw [Int.toNat_natCast] at m4
          have hnot := plc_neg.mp m4
          -- the visit comes
          have go : ∀ (J2 : KI) (s : Bool), s = decide (0 < w32 x) → (c < P.2.length → psg P c = s) → (c = P.2.length → J2 108 (c : Int) = sgi s) → MRd P J2 → mscr I J2 → kWP xs true (d + 1) 0 0 187 0 [(0, 19, 0, 101), (1, 0, 0, (c : Int)), (2, 0, 0, bi o)] [] G J2 (fun _ G3 I3 => kWP xs true (d + 2) 0 0 191 13 [(0, 19, 0, 101), (1, 0, 0, (v : Int)), (2, 0, 0, (i : Int)), (3, 0, 0, (n : Int)), (4, 0, 0, w32 ((j : Int) + 1))] [] G3 I3 Q) := by
            intro J2 s hs hps hsg hP2 hf2
            have hS : rdS P x = some (rst P c o s) := by
              unfold rdS
              rw [if_pos ⟨by unfold rdd; exact g1, by rw [← ho, ← hc, hc]; exact g3, fun hh => by rw [hcf, ← hs]; exact hps (by omega)⟩, hcf, ← ho, ← hs]
            refine t_M_comes hP2 hok (by omega) (by omega) hnot hsg (fun J3 hP3 hf3 => ?_)
            rw [w32_inc (by omega)]
            refine ih _ J3 (by rw [rdR_s, hR]; show rdS P (f j) = _; rw [hx]; exact hS) (rst_q hok (by omega) (by omega) hnot) ?_ hP3 (hf2.tr hf3.ms)
            rw [rst_sg]
            split
            · exact hle
            · simp; omega
          rw [hP.1]
          have at141 : ∀ (J2 : KI), J2 = J → (c < P.2.length → psg P c = decide (0 < w32 x)) → kWP xs true (d + 2) 0 0 191 141 [(0, 19, 0, 101), (1, 0, 0, (v : Int)), (2, 0, 0, (i : Int)), (3, 0, 0, (n : Int)), (4, 0, 0, (j : Int)), (5, 0, 0, w32 x), (7, 0, 0, bi o), (8, 0, 0, (c : Int))] [] G J2 Q := by
            intro J2 eJ hps
            subst eJ
            refine b_M_readsRow_141 ⟨fun _ => ?_, fun hh => absurd hh (by decide)⟩
            rw [hP.1]
            refine ⟨fun q1 => ?_, fun q1 => ⟨fun q2 => ⟨by omega, fun J3 e3 => ?_⟩, fun q2 => ⟨by omega, fun J3 e3 => ?_⟩⟩⟩
            · exact go J2 _ rfl hps (fun hh => by omega) hP hf
            · refine go J3 true (decide_eq_true (by omega)).symm (fun hh => by omega) (fun _ => by rw [e3, kst_s]; rfl) ⟨by rw [e3, kst_n (by omega)]; exact hP.1, by rw [e3, kst_n (by omega)]; exact hP.2.1, fun k hk => by rw [e3, kst_n (by omega), kst_n (by omega)]; exact hP.2.2.1 k hk, fun k hk => by rw [e3, kst_n (by omega)]; exact hP.2.2.2.1 k hk, fun k hk => by rw [e3, kst_n (by omega)]; exact hP.2.2.2.2 k hk⟩ (hf.tr (fun a k n1 n2 => by rw [e3, kst_n (by omega)]))
            · refine go J3 false (decide_eq_false (by omega)).symm (fun hh => by omega) (fun _ => by rw [e3, kst_s]; rfl) ⟨by rw [e3, kst_n (by omega)]; exact hP.1, by rw [e3, kst_n (by omega)]; exact hP.2.1, fun k hk => by rw [e3, kst_n (by omega), kst_n (by omega)]; exact hP.2.2.1 k hk, fun k hk => by rw [e3, kst_n (by omega)]; exact hP.2.2.2.1 k hk, fun k hk => by rw [e3, kst_n (by omega)]; exact hP.2.2.2.2 k hk⟩ (hf.tr (fun a k n1 n2 => by rw [e3, kst_n (by omega)]))
          have nos : c < P.2.length → psg P c ≠ decide (0 < w32 x) → Q 0 G J := fun hcl hne => hbad (by
            unfold rdS
            rw [if_neg (fun hh => hne (by have := hh.2.2 (by omega); rw [hcf] at this; exact this))])
          refine ⟨fun q1 => at141 J rfl (fun hh => by omega), fun q1 => ⟨by omega, fun q2 => b_M_readsRow_138 ?_, fun q2 => b_M_readsRow_138 ?_⟩⟩
          · rw [hP.2.2.2.1 c (by omega)]
            have hd : decide (0 < w32 x) = true := decide_eq_true (by omega)
            refine ⟨fun q3 => b_M_readsRow_145 ⟨fun hh => absurd rfl hh, fun _ => nos (by omega) (fun hh => ?_)⟩, fun q3 => at141 J rfl (fun _ => ?_)⟩
            · rw [hd] at hh; rw [hh] at q3; exact q3 rfl
            · rw [hd]
              cases hb : psg P c with
              | true => rfl
              | false => rw [hb] at q3; exact absurd q3 (by decide)
          · rw [hP.2.2.2.1 c (by omega)]
            have hd : decide (0 < w32 x) = false := decide_eq_false (by omega)
            refine ⟨fun q3 => b_M_readsRow_145 ⟨fun hh => absurd rfl hh, fun _ => nos (by omega) (fun hh => ?_)⟩, fun q3 => at141 J rfl (fun _ => ?_)⟩
            · rw [hd] at hh; rw [hh] at q3; exact q3 rfl
            · rw [hd]
              cases hb : psg P c with
              | false => rfl
              | true => rw [hb] at q3; exact absurd q3 (by decide)
    have at51 : kWP xs true (d + 2) 0 0 191 51 [(0, 19, 0, 101), (1, 0, 0, (v : Int)), (2, 0, 0, (i : Int)), (3, 0, 0, (n : Int)), (4, 0, 0, (j : Int)), (5, 0, 0, w32 x)] [(0, 0, rdz x)] G J Q := by
      refine b_M_readsRow_51 ⟨by omega, fun g1 => at67 false (decide_eq_false g1).symm, fun g1 => at67 true (decide_eq_true g1).symm⟩
    refine ⟨fun hh => by omega, fun _ => ⟨by omega, fun g1 => ?_, fun g1 => ?_⟩⟩
    · have : rdz x = w32 x := by unfold rdz; rw [if_pos g1, w32_ww]
      rw [this] at at51; exact at51
    · have : rdz x = w32 (-(w32 x)) := by unfold rdz; rw [if_neg (by omega), Int.zero_sub]
      rw [this] at at51; exact at51
theorem t_M_isShelf0 {xs : KS} {d : Nat} {v : Int} {G : KG} {I : KI} {Q : KQ} (h : Q (bi (decide (0 ≤ v ∧ v ≤ 5))) G I) : kWP xs true (d + 1) 0 0 234 0 [(0, 0, 0, v)] [] G I Q :=
  b_M_isShelf_0 (t_M_within (kzr_bi h))
theorem m_fromRow {xs : KS} {v i n : Int} : MOk xs 192 [(0, 19, 0, 101), (1, 0, 0, v), (2, 0, 0, i), (3, 0, 0, n)] (opFromRow v i n) := by
  intro d S G I Q hS hI h
  have h12 := hS.1.2.1
  have no : ∀ r J, mscr I J → opFromRow v i n S = (r, S) → Q r G J := fun r J hm e => by rw [e] at h; exact h G J (hS.ms hm) hm.lo
  unfold opFromRow at no h
  refine b_M_fromRow_0 (t_M_isShelf0 ⟨fun g1 => no _ _ (mscr.rf I) (by rw [if_pos (by have := of_decide_eq_false (bi0 g1); omega)]), fun g1 => t_M_within ⟨fun g2 => ?_, fun g2 => no _ _ (mscr.rf I) (by rw [if_pos (by have := of_decide_eq_false (bi0 g2); omega)])⟩⟩)
  have g1 := of_decide_eq_true (bi1 g1)
  have g2 := of_decide_eq_true (bi1 g2)
  rw [if_neg (by omega)] at no h
  rw [hS.1.1]
  refine ⟨fun g3 => ⟨by omega, ?_⟩, fun g3 => no _ _ (mscr.rf I) (by rw [if_pos (by omega)])⟩
  rw [if_neg (by omega)] at no h
  obtain ⟨v', rfl⟩ : ∃ v' : Nat, v = v' := ⟨v.toNat, by omega⟩
  obtain ⟨n', rfl⟩ : ∃ n' : Nat, n = n' := ⟨n.toNat, by omega⟩
  have hv6 : v' < 6 := by omega
  have hsh := hS.2.2.2.2.2.2 v' hv6
  have esg : sget S.2.2.2.2.2 (v' : Int) = S.2.2.2.2.2.getD v' none := rfl
  rw [esg] at no h
  cases hx : S.2.2.2.2.2.getD v' none with
  | none =>
    rw [hx] at hsh no
    have c1 : I 125 (v' : Int) = -1 := hsh
    rw [c1]
    exact ⟨fun hh => absurd hh (by decide), fun _ => no _ _ (mscr.rf I) rfl⟩
  | some y =>
    cases y with
    | inl b =>
      rw [hx] at hsh no
      obtain ⟨c1, c2⟩ : I 125 (v' : Int) = (b : Int) ∧ b < 50 := hsh
      rw [c1]
      exact ⟨fun _ => ⟨by omega, fun hh => by omega, fun _ => no _ _ (mscr.rf I) rfl⟩, fun hh => by omega⟩
    | inr sl =>
      obtain ⟨s, l⟩ := sl
      rw [hx] at hsh no h
      obtain ⟨c1, c2, c3, c4⟩ : I 125 (v' : Int) = 50 + (s : Int) ∧ I 126 (v' : Int) = (l.length : Int) ∧ l.length ≤ 60 ∧ ∀ k : Nat, k < l.length → I 127 ((60 * v' + k : Nat) : Int) = l.getD k 0 := hsh
      rw [c1, c2]
      simp only at no h
      refine ⟨fun _ => ⟨by omega, fun g4 => ⟨fun g5 => no _ _ (mscr.rf I) ?_, fun g5 => ⟨by omega, fun g6 => ?_, fun g6 => no _ _ (mscr.rf I) ?_⟩⟩, fun g4 => no _ _ (mscr.rf I) (by rw [if_pos (by omega)])⟩, fun hh => by omega⟩
      · rw [if_neg (by omega), if_pos (by omega)]
      · rw [w32_id (x := 2 * (n' : Int)) (by omega) (by omega), w32_id (by omega) (by omega)] at g6
        rw [if_neg (by omega), if_neg (by omega)] at no h
        obtain ⟨i', rfl⟩ : ∃ i' : Nat, i = i' := ⟨i.toNat, by omega⟩
        simp only [Int.toNat_natCast] at no h
        refine t_M_readsRow (f := rowAt l i') hv6 (by omega) (by omega) (fun k hk => ?_) (fun hnone J hm => ⟨fun _ => no _ _ hm (by rw [hnone]), fun hh => absurd rfl hh⟩) (fun P J hsome hw hH hm => ⟨fun hh => absurd hh (by decide), fun _ => ?_⟩)
        · rw [show 60 * v' + i' + k = 60 * v' + (i' + k) by omega]
          exact c4 _ (by omega)
        · rw [hsome] at h
          simp only at h
          have hS1 := hS.ms hm
          refine t_M_canBeDrawn hH hw (fun J2 hf2 => ⟨fun h3 => ?_, fun h3 => ?_⟩)
          · have h3 := of_decide_eq_false (bi0 h3)
            rw [if_neg h3] at h
            exact h G J2 (hS1.ms (hf2.ms (by omega) (by omega))) (fun a k hk => by rw [hf2 _ _ (by omega)]; exact hm.lo a k hk)
          · have h3 := of_decide_eq_true (bi1 h3)
            rw [if_pos h3] at h
            have hS2 := hS1.ms (hf2.ms (by omega) (by omega))
            refine t_M_keeps hS2.1 (by omega) (hH.fr (fun a k hk => hf2 _ _ (by omega))) (fun J3 hp3 hf3 => ?_)
            exact h G J3 (hS2.kp hp3 hf3) (fun a k hk => by rw [hf3 _ _ (by omega) (by omega), hf2 _ _ (by omega)]; exact hm.lo a k hk)
      · rw [w32_id (x := 2 * (n' : Int)) (by omega) (by omega), w32_id (by omega) (by omega)] at g6
        rw [if_neg (by omega), if_pos (by omega)]
