/-! THE MODEL: pictures from the tape -/
theorem w8_i {x c : Int} (h : 0 ≤ x ∧ x < 256) (hc : 0 ≤ c ∧ c < 128) : w8 x = c ↔ x = c := by unfold w8; omega
theorem mcm_w8 {P : Pic} {x : Int} {b : Bool} (h : 0 ≤ x ∧ x < 256) : mcm P (w8 x - 49) b = mcm P (x - 49) b := by
  by_cases hx : x < 128
  · rw [show w8 x = x by unfold w8; omega]
  · unfold mcm
    rw [decide_eq_false (show ¬ 0 ≤ w8 x - 49 by unfold w8; omega), decide_eq_false (show ¬ x - 49 < 7 by omega)]
    simp
theorem t_M_reads {xs : KS} {d : Nat} {T : List Int} {G : KG} {I : KI} {Q : KQ} (hT : MTp T I) (hb : ∀ b ∈ T, 0 ≤ b ∧ b < 256)
    (h : ∀ I' : KI, RdQ (rtp (fw8 T) T.length (T.length + 1) 0 ([], [])).2 → MRd (rtp (fw8 T) T.length (T.length + 1) 0 ([], [])).2 I' → mscr I I' → Q (rtp (fw8 T) T.length (T.length + 1) 0 ([], [])).1 G I') : kWP xs true (d + 2) 0 0 189 0 [(0, 19, 0, 101)] [] G I Q := by
  have hsg := sg_tape hb
  have h120 := hT.2.1
  generalize hg : (fun k => T.getD k 0) = g at hsg
  have hTk : ∀ (J : KI), mscr I J → J 101 17 = (T.length : Int) ∧ ∀ k : Nat, k < T.length → J 116 (k : Int) = g k := fun J hf => ⟨by rw [hf _ _ (by omega) (by omega)]; exact hT.1, fun k hk => by rw [hf _ _ (by omega) (by omega), ← hg]; exact hT.2.2 k hk⟩
  generalize hf8 : fw8 T = f at *
  generalize hn : T.length = n at *
  refine b_M_reads_0 (fun J0 e0 J1 e1 => ?_)
  have hf1 : mscr I J1 := fun a k n1 n2 => by rw [e1, kst_n (by omega), e0, kst_n (by omega)]
  have hR1 : MRd ([], []) J1 := ⟨by rw [e1, kst_n (by omega), e0, kst_s]; rfl, by rw [e1, kst_s]; rfl, fun k hk => absurd hk (Nat.not_lt_zero k), fun k hk => absurd hk (Nat.not_lt_zero k), fun k hk => absurd hk (Nat.not_lt_zero k)⟩
  suffices key : ∀ (u i : Nat) (P : Pic) (J : KI), i ≤ n → n < i + u → rtp f n u i P = rtp f n (n + 1) 0 ([], []) → RdQ P → MRd P J → mscr I J → kWP xs true (d + 2) 0 0 189 12 [(0, 19, 0, 101), (1, 0, 0, (i : Int))] [] G J Q from key (n + 1) 0 ([], []) J1 (by omega) (by omega) rfl RdQ.nil hR1 hf1
  intro u
  induction u with
  | zero => intro i P J h1 h2; omega
  | succ u ih =>
    intro i P J hi hu hR hok hP hf
    have h7 := hok.1
    obtain ⟨hJn, hJk⟩ := hTk J hf
    have fin : ∀ r : Int, rtp f n (u + 1) i P = (r, P) → Q r G J := fun r hr => by
      rw [hr] at hR
      rw [← hR] at h
      exact h J hok hP hf
    refine b_M_reads_12 ?_
    rw [hJn]
    refine ⟨fun h1 => t_M_areWhole hP hok ⟨fun h2 => fin i ?_, fun h2 => fin (-1) ?_⟩, fun h1 => ⟨by omega, ?_⟩⟩
    · have h2 := of_decide_eq_false (bi0 h2)
      unfold rtp; rw [if_pos (by omega), if_neg h2, show n = i by omega]
    · have h2 := of_decide_eq_true (bi1 h2)
      unfold rtp; rw [if_pos (by omega), if_pos h2]
    · have hni : ¬ n ≤ i := by omega
      obtain ⟨g0, g1, g2⟩ := hsg i (by omega)
      have at52 : ∀ o : Bool, o = decide (f i = 111) → (f i = 111 ∨ f i = 117) → kWP xs true (d + 2) 0 0 189 52 [(0, 19, 0, 101), (1, 0, 0, (i : Int)), (2, 0, 0, bi o)] [] G J Q := by
        intro o ho hou
        refine b_M_reads_52 (t_M_mayAny hP hok ⟨fun h2 => ?_, fun h2 => b_M_reads_60 (fin _ ?_)⟩)
        · have h2' : ¬ amc P (decide (f i = 111)) = false := by rw [← ho, bi1 h2]; simp
          rw [hJn, w32_inc (by omega)]
          refine ⟨fun h3 => b_M_reads_86 (t_M_mayCome hP hok ⟨fun h4 => ?_, fun h4 => fin _ ?_⟩), fun h3 => ⟨by omega, ?_⟩⟩
          · have := bi1 h4
            rw [mcm_o (by omega)] at this; cases this
          · rw [rtp, if_neg hni, if_neg (fun hh => hh hou), if_neg h2', if_pos (by omega), show n = i + 1 by omega]
          · have hi1 : i + 1 < n := by omega
            obtain ⟨q0, q1, q2⟩ := hsg (i + 1) hi1
            rw [hJk _ hi1, w32_id (x := g (i + 1) - 49) (by omega) (by omega)]
            have hmc : mcm P (f (i + 1) - 49) o = mcm P (g (i + 1) - 49) o := by rw [q2]; exact mcm_w8 ⟨q0, q1⟩
            refine b_M_reads_86 (t_M_mayCome hP hok ⟨fun h4 => ?_, fun h4 => fin _ ?_⟩)
            · have h4 := bi1 h4
              obtain ⟨m1, m2, m3, m4⟩ := mcm_out h4
              have e8 : f (i + 1) = g (i + 1) := by rw [q2]; unfold w8; omega
              have h4' : ¬ mcm P (f (i + 1) - 49) (decide (f i = 111)) = false := by rw [← ho, hmc, h4]; simp
              obtain ⟨c, hc⟩ : ∃ c : Nat, (c : Int) = g (i + 1) - 49 := ⟨(g (i + 1) - 49).toNat, by omega⟩
              rw [← hc] at m1 m2 m3 m4 ⊢
              have hcf : (f (i + 1) - 49).toNat = c := by omega
              have hnot := plc_neg.mp m4
              rw [Int.toNat_natCast] at hnot
              have hgo : ∀ (s : Bool) (i' : Nat) (J2 : KI), (c = P.2.length → J2 108 (c : Int) = sgi s) → MRd P J2 → mscr I J2 → i < i' → i' ≤ n → rtp f n (u + 1) i P = rtp f n u i' (rst P c o s) → kWP xs true (d + 1) 0 0 187 0 [(0, 19, 0, 101), (1, 0, 0, (c : Int)), (2, 0, 0, bi o)] [] G J2 (fun _ G3 I3 => kWP xs true (d + 2) 0 0 189 12 [(0, 19, 0, 101), (1, 0, 0, (i' : Int))] [] G3 I3 Q) := by
                intro s i' J2 hs hP2 hf2 hi1 hi2 hr
                refine t_M_comes hP2 hok (by omega) (by omega) hnot hs (fun J3 hP3 hf3 => ?_)
                exact ih i' _ J3 hi2 (by omega) (by rw [← hr]; exact hR) (rst_q hok (by omega) (by omega) hnot) hP3 (hf2.tr hf3.ms)
              rw [hP.1]
              refine ⟨fun h5 => ?_, fun h5 => ?_⟩
              · rw [w32_inc (by omega)]
                refine hgo false (i + 2) J (fun hh => by omega) hP hf (by omega) (by omega) ?_
                rw [rtp, if_neg hni, if_neg (fun hh => hh hou), if_neg h2', if_neg (by omega), if_neg h4', if_pos (by omega), ← ho, hcf]
              · rw [hJn, w32_inc (by omega)]
                refine ⟨fun h6 => fin _ ?_, fun h6 => ⟨by omega, ?_⟩⟩
                · rw [rtp, if_neg hni, if_neg (fun hh => hh hou), if_neg h2', if_neg (by omega), if_neg h4', if_neg (by omega), if_pos (by omega), show n = i + 1 + 1 by omega]
                · have hi2 : i + 1 + 1 < n := by omega
                  obtain ⟨t0, t1, t2⟩ := hsg (i + 1 + 1) hi2
                  rw [hJk _ hi2, w32_inc (by omega)]
                  have hcn : c = P.2.length := by omega
                  have ws : ∀ (J2 : KI) (s : Bool), J2 = kst J 108 (c : Int) (sgi s) → (c = P.2.length → J2 108 (c : Int) = sgi s) ∧ MRd P J2 ∧ mscr I J2 := fun J2 s e2 => ⟨fun _ => by rw [e2, kst_s], ⟨by rw [e2, kst_n (by omega)]; exact hP.1, by rw [e2, kst_n (by omega)]; exact hP.2.1, fun k hk => by rw [e2, kst_n (by omega), kst_n (by omega)]; exact hP.2.2.1 k hk, fun k hk => by rw [e2, kst_n (by omega)]; exact hP.2.2.2.1 k hk, fun k hk => by rw [e2, kst_n (by omega)]; exact hP.2.2.2.2 k hk⟩, hf.tr (fun a k n1 n2 => by rw [e2, kst_n (by omega)])⟩
                  refine ⟨fun h7 => ⟨by omega, fun hh => absurd h7 hh, fun _ => ⟨by omega, fun J2 e2 => ?_⟩⟩, fun h7 => ⟨by omega, fun h8 => ⟨by omega, fun _ => ⟨by omega, fun J2 e2 => ?_⟩, fun hh => absurd hh h7⟩, fun h8 => fin _ ?_⟩⟩
                  · obtain ⟨w1, w2, w3⟩ := ws J2 true e2
                    refine hgo true (i + 1 + 1 + 1) J2 w1 w2 w3 (by omega) (by omega) ?_
                    rw [rtp, if_neg hni, if_neg (fun hh => hh hou), if_neg h2', if_neg (by omega), if_neg h4', if_neg (by omega), if_neg (by omega), if_pos (by show f (i + 1 + 1) = 43; rw [t2]; exact (w8_i ⟨t0, t1⟩ (by omega)).mpr h7), ← ho, hcf]
                  · obtain ⟨w1, w2, w3⟩ := ws J2 false e2
                    refine hgo false (i + 1 + 1 + 1) J2 w1 w2 w3 (by omega) (by omega) ?_
                    rw [rtp, if_neg hni, if_neg (fun hh => hh hou), if_neg h2', if_neg (by omega), if_neg h4', if_neg (by omega), if_neg (by omega), if_neg (by show ¬ f (i + 1 + 1) = 43; rw [t2]; exact fun hh => h7 ((w8_i ⟨t0, t1⟩ (by omega)).mp hh)), if_pos (by show f (i + 1 + 1) = 45; rw [t2]; exact (w8_i ⟨t0, t1⟩ (by omega)).mpr h8), ← ho, hcf]
                  · rw [rtp, if_neg hni, if_neg (fun hh => hh hou), if_neg h2', if_neg (by omega), if_neg h4', if_neg (by omega), if_neg (by omega), if_neg (by show ¬ f (i + 1 + 1) = 43; rw [t2]; exact fun hh => h7 ((w8_i ⟨t0, t1⟩ (by omega)).mp hh)), if_neg (by show ¬ f (i + 1 + 1) = 45; rw [t2]; exact fun hh => h8 ((w8_i ⟨t0, t1⟩ (by omega)).mp hh))]
            · have h4 := bi0 h4
              rw [rtp, if_neg hni, if_neg (fun hh => hh hou), if_neg h2', if_neg (by omega), if_pos (by rw [← ho, hmc, h4])]
        · rw [rtp, if_neg hni, if_neg (fun hh => hh hou), if_pos (by rw [← ho, bi0 h2])]
      rw [hJk i (by omega)]
      have c1 : f i = 111 ↔ g i = 111 := by rw [g2]; exact w8_i ⟨g0, g1⟩ (by omega)
      have c2 : f i = 117 ↔ g i = 117 := by rw [g2]; exact w8_i ⟨g0, g1⟩ (by omega)
      refine ⟨fun h2 => b_M_reads_36 ⟨fun h3 => absurd rfl h3, fun _ => ⟨by omega, ?_⟩⟩, fun h2 => b_M_reads_36 ⟨fun _ => at52 true (decide_eq_true (c1.mpr h2)).symm (Or.inl (c1.mpr h2)), fun h3 => absurd h3 (by decide)⟩⟩
      rw [hJk i (by omega)]
      refine ⟨fun h3 => b_M_reads_60 (fin _ ?_), fun h3 => at52 false (decide_eq_false (fun hh => h2 (c1.mp hh))).symm (Or.inr (c2.mpr h3))⟩
      rw [rtp, if_neg hni, if_pos (fun hh => hh.elim (fun q => h2 (c1.mp q)) (fun q => h3 (c2.mp q)))]
/-- what is read whole is a picture -/
theorem rtp_whl {f : Nat → Int} {n : Nat} : ∀ (u i : Nat) (P : Pic), (rtp f n u i P).1 = -1 → (rtp f n u i P).2.1.length = 2 * (rtp f n u i P).2.2.length
  | 0, i, P, h => by unfold rtp at h; simp at h
  | u + 1, i, P, h => by
    unfold rtp at h ⊢
    split at h
    · rename_i h1
      rw [if_pos h1]
      split at h
      · rename_i h2; rw [if_pos h2]; exact h2
      · simp only at h; omega
    · rename_i h1
      rw [if_neg h1]
      split at h
      · simp only at h; omega
      · rename_i h2
        rw [if_neg h2]
        split at h
        · simp only at h; omega
        · rename_i h3
          rw [if_neg h3]
          split at h
          · simp only at h; omega
          · rename_i h4
            rw [if_neg h4]
            split at h
            · simp only at h; omega
            · rename_i h5
              rw [if_neg h5]
              split at h
              · rename_i h6; rw [if_pos h6]; exact rtp_whl u _ _ h
              · rename_i h6
                rw [if_neg h6]
                split at h
                · simp only at h; omega
                · rename_i h7
                  rw [if_neg h7]
                  split at h
                  · rename_i h8; rw [if_pos h8]; exact rtp_whl u _ _ h
                  · rename_i h8
                    rw [if_neg h8]
                    split at h
                    · rename_i h9; rw [if_pos h9]; exact rtp_whl u _ _ h
                    · simp only at h; omega
/-- a drawable picture is a good one -/
def OwedD : Prop := ∀ P, PicW P → fcC P = P.2.length + 2 → PicOk P
theorem rtp_nn {f : Nat → Int} {n : Nat} : ∀ (u i : Nat) (P : Pic), i ≤ n → n < i + u → -1 ≤ (rtp f n u i P).1 ∧ (rtp f n u i P).1 ≤ n
  | 0, i, P, h1, h2 => by omega
  | u + 1, i, P, h1, h2 => by
    unfold rtp
    split
    · split
      · show -1 ≤ (-1 : Int) ∧ (-1 : Int) ≤ n; omega
      · show -1 ≤ (n : Int) ∧ (n : Int) ≤ n; omega
    · split
      · show -1 ≤ (i : Int) ∧ (i : Int) ≤ n; omega
      · split
        · show -1 ≤ (i : Int) ∧ (i : Int) ≤ n; omega
        · split
          · show -1 ≤ (n : Int) ∧ (n : Int) ≤ n; omega
          · split
            · show -1 ≤ ((i + 1 : Nat) : Int) ∧ ((i + 1 : Nat) : Int) ≤ n; omega
            · split
              · exact rtp_nn u _ _ (by omega) (by omega)
              · split
                · show -1 ≤ (n : Int) ∧ (n : Int) ≤ n; omega
                · split
                  · exact rtp_nn u _ _ (by omega) (by omega)
                  · split
                    · exact rtp_nn u _ _ (by omega) (by omega)
                    · show -1 ≤ ((i + 2 : Nat) : Int) ∧ ((i + 2 : Nat) : Int) ≤ n; omega
theorem RRep.tp {S : St} {I J : KI} (hr : RRep S I) (h0 : J 101 17 = 0) (hf : ∀ a k, ¬ (a = 101 ∧ k = 17) → J a k = I a k) : RRep (S.1, [], S.2.2) J :=
  ⟨hr.1.fr (fun a k hk => hf _ _ (by omega)), ⟨by rw [h0]; rfl, by simp, fun k hk => absurd hk (Nat.not_lt_zero k)⟩, hr.2.2.1.fr (fun a k hk => hf _ _ (by omega)), hr.2.2.2.1.fr (fun a k hk => hf _ _ (by omega)), hr.2.2.2.2.1.fr (fun a k hk => hf _ _ (by omega)), hr.2.2.2.2.2.fr (fun a k h1 h2 => hf _ _ (by omega))⟩
theorem m_picture {xs : KS} : MOk xs 190 [(0, 19, 0, 101)] opPicture := by
  intro d S G I Q hS hI h
  have h12 := hS.1.2.1
  refine b_M_picture_0 ?_
  rw [hS.1.1]
  unfold opPicture at h
  refine ⟨fun h1 => t_M_reads hS.2.1 hI.2.2.1 (fun J hq hr hm => ?_), fun h1 => ?_⟩
  · rw [if_neg (by omega)] at h
    simp only at h
    have hnn := rtp_nn (f := fw8 S.2.1) (n := S.2.1.length) (S.2.1.length + 1) 0 ([], []) (by omega) (by omega)
    have hwh := rtp_whl (f := fw8 S.2.1) (n := S.2.1.length) (S.2.1.length + 1) 0 ([], [])
    have h120 := hS.2.1.2.1
    generalize rtp (fw8 S.2.1) S.2.1.length (S.2.1.length + 1) 0 ([], []) = r at *
    intro J1 e1
    have hS1 : RRep (S.1, [], S.2.2) J1 := (hS.ms hm).tp (by rw [e1, kst_s]) (fun a k n => by rw [e1, kst_n (by omega)])
    have lo1 : lof I J1 := fun a k hk => by rw [e1, kst_n (by omega)]; exact hm.lo a k hk
    refine ⟨fun h2 => ?_, fun h2 => ?_⟩
    · have hr1 : r.1 = -1 := by omega
      rw [if_neg (by omega)] at h
      have hl := hwh hr1
      have hH : MHd r.2 J1 := (hr.hd hq hl).fr (fun a k hk => by rw [e1, kst_n (by omega)])
      refine t_M_canBeDrawn hH (hq.w hl) (fun J2 hf2 => ⟨fun h3 => ?_, fun h3 => ?_⟩)
      · have h3 := of_decide_eq_false (bi0 h3)
        rw [if_neg h3] at h
        exact h G J2 (hS1.ms (hf2.ms (by omega) (by omega))) (fun a k hk => by rw [hf2 _ _ (by omega)]; exact lo1 a k hk)
      · have h3 := of_decide_eq_true (bi1 h3)
        rw [if_pos h3] at h
        have hS2 := hS1.ms (hf2.ms (by omega) (by omega))
        refine t_M_keeps hS2.1 (by show S.1.length < 12; omega) (hH.fr (fun a k hk => hf2 _ _ (by omega))) (fun J3 hp3 hf3 => ?_)
        exact h G J3 (hS2.kp hp3 hf3) (fun a k hk => by rw [hf3 _ _ (by omega) (by omega), hf2 _ _ (by omega)]; exact lo1 a k hk)
    · rw [if_pos (by omega)] at h
      exact h G J1 hS1 lo1
  · rw [if_pos (by omega)] at h
    exact h G I hS (lof.rf I)
