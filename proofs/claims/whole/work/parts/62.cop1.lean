/-! THE CLASS'S CALLS: pictures from tape and rows -/
theorem CRep.tape {xs : KS} {S : St} {T : List Int} {I J : KI} (h : CRep xs S I) (hf : ∀ a k, ¬ (a = 0 ∧ k = 1) → a ≠ 1 → ¬ (3 ≤ a ∧ a < 20) → J a k = I a k) (hT : CTp T J) : CRep xs (S.1, T, S.2.2) J := by
  obtain ⟨h1, _, h3, h4, h5, h6, h7⟩ := h
  refine ⟨?_, hT, h3.fr (hf _ _ (by omega) (by omega) (by omega)) (fun k => hf _ _ (by omega) (by omega) (by omega)), h4.fr (fun a k hk => hf _ _ (by omega) (by omega) (by omega)), h5.fr (fun a k hk => hf _ _ (by omega) (by omega) (by omega)), h6.fr (fun a k h8 h9 => hf _ _ (by omega) (by omega) (by omega)), h7.fr (fun k => hf _ _ (by omega) (by omega) (by omega))⟩
  obtain ⟨c1, c2, c3⟩ := h1
  refine ⟨by rw [hf _ _ (by omega) (by omega) (by omega)]; exact c1, c2, fun i hi => ⟨(c3 i hi).1.moved ⟨hf _ _ (by omega) (by omega) (by omega), hf _ _ (by omega) (by omega) (by omega), hf _ _ (by omega) (by omega) (by omega), hf _ _ (by omega) (by omega) (by omega)⟩ (fun k _ _ => hf _ _ (by omega) (by omega) (by omega)), fun h4 k hk => ?_⟩⟩
  rw [hf _ _ (by omega) (by omega) (by omega)] at h4 ⊢
  exact (c3 i hi).2 h4 k hk
theorem fw8_app {T U : List Int} {k : Nat} (h : k < T.length) : fw8 (T ++ U) k = fw8 T k := by
  unfold fw8
  rw [List.getD_eq_getElem?_getD, List.getElem?_append_left h, ← List.getD_eq_getElem?_getD]
theorem fw8_new {T : List Int} {v : Int} {n j : Nat} (h : j < n) : fw8 (T ++ fdB v n) (T.length + j) = w8 (w8 (kishr v (8 * (j : Int)))) := by
  unfold fw8 fdB
  rw [List.getD_eq_getElem?_getD, List.getElem?_append_right (by omega), show T.length + j - T.length = j by omega, List.getElem?_map, List.getElem?_range h]
  show w8 (kishr v (8 * (j : Int)) % 256) = _
  unfold w8; omega
theorem fdB_len (v : Int) (n : Nat) : (fdB v n).length = n := by unfold fdB; simp
theorem c_feed {xs : KS} {n v : Int} : COk xs 86 [(0, 18, 0, 0), (1, 0, 0, n), (2, 0, 0, v)] (opFeed n v) := by
  intro d S G I Q hS hI h
  have no : ∀ r, opFeed n v S = (r, S) → Q r G I := fun r e => by rw [e] at h; exact h G I hS (hif.rf I)
  have hT := hS.2.1
  refine b_C_feed_0 ⟨fun h1 => no _ (by unfold opFeed; rw [if_pos (Or.inl h1)]), fun h1 => ⟨fun h4 => ?_, fun h4 => no _ (by unfold opFeed; rw [if_pos (Or.inr h4)])⟩⟩
  have hn : ¬ (n < 1 ∨ 4 < n) := by omega
  rw [hT.1, w32_id (x := 120 - n) (by omega) (by omega)]
  refine ⟨fun h2 => ?_, fun h2 => no _ (by unfold opFeed; rw [if_neg hn, if_pos (by omega)])⟩
  obtain ⟨N, rfl⟩ : ∃ N : Nat, n = N := ⟨n.toNat, by omega⟩
  have e : opFeed (N : Int) v S = ((S.2.1.length : Int) + N, (S.1, S.2.1 ++ fdB v N, S.2.2)) := by unfold opFeed; rw [if_neg hn, if_neg (by omega)]; rfl
  rw [e] at h
  refine loop_up (n := N) (W := fun j => ∀ J : KI, (∀ a k, a ≠ 1 → J a k = I a k) → (∀ k : Nat, k < S.2.1.length + j → J 1 (k : Int) = fw8 (S.2.1 ++ fdB v N) k) → kWP xs true (d + 80) 0 0 86 28 [(0, 18, 0, 0), (1, 0, 0, (N : Int)), (2, 0, 0, v), (3, 0, 0, (j : Int))] [] G J Q) ?_ ?_ (Nat.zero_le _) I (fun _ _ _ => rfl) (fun k hk => by rw [fw8_app (by omega)]; exact hT.2.2 k (by omega))
  · intro J hf hJ
    refine b_C_feed_28 ⟨fun _ J1 e1 => ?_, fun hh => by omega⟩
    rw [hf _ _ (by omega), hT.1, w32_id (by omega) (by omega)] at e1
    have g1 : J1 0 1 = (S.2.1.length : Int) + N := by rw [e1, kst_s]
    rw [g1]
    refine h G J1 (hS.tape (fun a k n1 n2 _ => by rw [e1, kst_n (by omega)]; exact hf a k n2) ⟨?_, ?_, fun k hk => ?_⟩) (fun a k hk => by rw [e1, kst_n (by omega)]; exact hf a k (by omega))
    · rw [g1, List.length_append, fdB_len]; omega
    · rw [List.length_append, fdB_len]; omega
    · rw [List.length_append, fdB_len] at hk
      rw [e1, kst_n (by omega)]; exact hJ k hk
  · intro j hj ih J hf hJ
    have g0 : J 0 1 = (S.2.1.length : Int) := by rw [hf _ _ (by omega)]; exact hT.1
    refine b_C_feed_28 ⟨fun hh => by omega, fun _ => ?_⟩
    rw [g0, w32_id (x := (S.2.1.length : Int) + (j : Int)) (by omega) (by omega), w32_id (x := 8 * (j : Int)) (by omega) (by omega)]
    refine ⟨by omega, fun J2 e2 => ?_⟩
    rw [w32_inc (by omega)]
    refine ih J2 (fun a k hk => by rw [e2, kst_n (by omega)]; exact hf a k hk) (fun k hk => ?_)
    rw [e2]
    by_cases hk2 : k = S.2.1.length + j
    · subst hk2
      rw [fw8_new hj, show ((S.2.1.length + j : Nat) : Int) = (S.2.1.length : Int) + (j : Int) by omega, kst_s]
    · rw [kst_n (by omega)]; exact hJ k (by omega)
theorem w8_b (x : Int) : -128 ≤ w8 x ∧ w8 x < 128 := by unfold w8; omega
theorem CTp.nil {I : KI} (h : I 0 1 = 0) : CTp [] I := ⟨h, by simp, fun k hk => absurd hk (Nat.not_lt_zero k)⟩
/-- what is made becomes a picture -/
theorem add_c {xs : KS} {d : Nat} {S : St} {P : Pic} {G : KG} {I J : KI} {Q : KQ} (hS : CRep xs S J) (hl : ¬ 12 ≤ S.1.length) (hP : CPic 3 P J) (hf : hif I J) (h : ∀ (G' : KG) (I' : KI), CRep xs (addP S P).2 I' → hif I I' → Q (addP S P).1 G' I') : kWP xs true (d + 1) 0 0 125 0 [(0, 18, 0, 0)] [] G J Q :=
  t_C_addMade hS.1 (by omega) hP (fun J1 hC hf1 => h G J1 (hS.pics (fun a k _ n2 n3 => hf1 a k n2 n3) hC) (fun a k hk => by rw [hf1 a k (by omega) (by omega)]; exact hf a k hk))
theorem rtp_b {f : Nat → Int} {n : Nat} : ∀ u i P, i + 3 ≤ n + 3 → -2 ≤ (rtp f n u i P).1 ∧ (rtp f n u i P).1 ≤ n + 3
  | 0, i, P, _ => by unfold rtp; simp only; omega
  | u + 1, i, P, h => by
    unfold rtp
    split
    · split <;> simp only <;> omega
    · rename_i h1
      split
      · simp only; omega
      · split
        · simp only; omega
        · split
          · simp only; omega
          · split
            · simp only; omega
            · split
              · exact rtp_b u _ _ (by omega)
              · split
                · simp only; omega
                · split
                  · exact rtp_b u _ _ (by omega)
                  · split
                    · exact rtp_b u _ _ (by omega)
                    · simp only; omega
theorem c_picture {xs : KS} : COk xs 87 [(0, 18, 0, 0)] opPicture := by
  intro d S G I Q hS hI h
  have hT := hS.2.1
  unfold opPicture at h
  refine b_C_picture_0 ?_
  rw [hS.1.1, hT.1]
  refine ⟨fun h1 => ?_, fun h1 => ?_⟩
  · rw [if_neg (by omega)] at h
    simp only at h
    have hS12 : ¬ 12 ≤ S.1.length := by omega
    refine t_Picture_read (p := 3) (e := 1) (f := fw8 S.2.1) (by omega) (fun k hk => ⟨hT.2.2 k hk, w8_b _⟩) hT.2.1 (fun J1 hR hP hf hs J2 e2 => ?_)
    have hf2 : ∀ a k, ¬ (a = 0 ∧ k = 1) → a ≠ 1 → ¬ (3 ≤ a ∧ a < 20) → J2 a k = I a k := fun a k n1 n2 n3 => by rw [e2, kst_n (by omega)]; exact hf a k (by omega)
    have hS2 : CRep xs (S.1, [], S.2.2) J2 := hS.tape hf2 (CTp.nil (by rw [e2, kst_s]))
    have hh2 : hif I J2 := fun a k hk => hf2 a k (by omega) (by omega) (by omega)
    have hP2 : CPic 3 (rtp (fw8 S.2.1) S.2.1.length (S.2.1.length + 1) 0 ([], [])).2 J2 := hP.moved ⟨by rw [e2, kst_n (by omega)], by rw [e2, kst_n (by omega)], by rw [e2, kst_n (by omega)], by rw [e2, kst_n (by omega)]⟩ (fun k _ _ => by rw [e2, kst_n (by omega)])
    refine ⟨fun h2 => t_Picture_canBeDrawn hP2 ?_, fun h2 => ?_⟩
    · rw [if_neg (by omega)] at h
      by_cases hc : fcC (rtp (fw8 S.2.1) S.2.1.length (S.2.1.length + 1) 0 ([], [])).2 = (rtp (fw8 S.2.1) S.2.1.length (S.2.1.length + 1) 0 ([], [])).2.2.length + 2
      · rw [if_pos hc] at h
        rw [decide_eq_true hc]
        exact ⟨fun hh => absurd hh (by decide), fun _ => add_c hS2 hS12 hP2 hh2 h⟩
      · rw [if_neg hc] at h
        rw [decide_eq_false hc]
        exact ⟨fun _ => h G J2 hS2 hh2, fun hh => absurd rfl hh⟩
    · rw [if_pos (by omega)] at h
      exact h G J2 hS2 hh2
  · rw [if_pos (by omega)] at h
    exact h G I hS (hif.rf I)
theorem rdW_cg {f g : Nat → Int} {n : Nat} (h : ∀ k, k < n → f k = g k) : rdW f n = rdW g n := by
  have : ∀ j, j ≤ n → rdR f j = rdR g j := by
    intro j
    induction j with
    | zero => intro _; rfl
    | succ j ih =>
      intro hj
      show (rdR f j).bind _ = (rdR g j).bind _
      rw [ih (by omega), h j (by omega)]
  unfold rdW
  rw [this n (Nat.le_refl n)]
theorem c_fromRow {xs : KS} {v i n : Int} (hi : -2147483648 ≤ i ∧ i < 2147483648) : COk xs 88 [(0, 18, 0, 0), (1, 0, 0, v), (2, 0, 0, i), (3, 0, 0, n)] (opFromRow v i n) := by
  intro d S G I Q hS hI h
  have no : ∀ r, opFromRow v i n S = (r, S) → Q r G I := fun r e => by rw [e] at h; exact h G I hS (hif.rf I)
  refine b_C_fromRow_0 (t_C_isShelf ⟨fun h1 => ?_, fun h1 => ?_⟩)
  · exact no _ (by unfold opFromRow; rw [if_pos (fun hh => of_decide_eq_false (bi0 h1) ⟨hh.1, hh.2.1⟩)])
  · have hv : 0 ≤ v ∧ v < 6 := of_decide_eq_true (bi1 h1)
    refine ⟨fun h2 => no _ (by unfold opFromRow; rw [if_pos (by omega)]), fun h2 => ⟨fun h3 => ?_, fun h3 => no _ (by unfold opFromRow; rw [if_pos (by omega)])⟩⟩
    rw [hS.1.1]
    have g0 : ¬ ¬ (0 ≤ v ∧ v < 6 ∧ 0 ≤ n ∧ n ≤ 7) := by omega
    refine ⟨fun h4 => ⟨hv, ?_⟩, fun h4 => no _ (by unfold opFromRow; rw [if_neg g0, if_pos (by omega)])⟩
    have hS12 : ¬ 12 ≤ S.1.length := by omega
    have hs := hS.2.2.2.2.2.1.at hv.1 hv.2
    cases hg : sget S.2.2.2.2.2 v with
    | none =>
      rw [hg] at hs
      rw [show I (40 + (49 + 2 * v)) 1 = 0 from hs]
      exact ⟨fun hh => absurd rfl hh, fun _ => no _ (by unfold opFromRow; rw [if_neg g0, if_neg hS12, hg])⟩
    | some z =>
      cases z with
      | inl b =>
        rw [hg] at hs
        rw [hs.1]
        refine ⟨fun _ => t_Shelf_isRowOf (s := 0) hs ⟨fun hh => absurd rfl hh, fun _ => no _ (by unfold opFromRow; rw [if_neg g0, if_neg hS12, hg])⟩, fun hh => absurd hh (by decide)⟩
      | inr q =>
        obtain ⟨s, l⟩ := q
        rw [hg] at hs
        rw [hs.1]
        refine ⟨fun _ => t_Shelf_isRowOf (s := 0) hs ?_, fun hh => absurd hh (by decide)⟩
        by_cases h0 : s = 0
        · rw [show shIs (some (.inr (s, l))) 0 = true from decide_eq_true h0]
          refine ⟨fun _ => ?_, fun hh => absurd hh (by decide)⟩
          obtain ⟨N, rfl⟩ : ∃ N : Nat, n = N := ⟨n.toNat, by omega⟩
          have hl60 : l.length ≤ 60 := hs.2.2.2.1
          rw [w32_id (x := 2 * (N : Int)) (by omega) (by omega)]
          refine t_Shelf_hasPlaces hs ?_ (by omega)
          have hnn : ¬ s ≠ 0 := fun hh => hh h0
          by_cases hp : 0 ≤ i ∧ i ≤ (l.length : Int) - 2 * N
          · rw [decide_eq_true ⟨hp.1, by omega, hp.2⟩]
            refine ⟨fun _ => ?_, fun hh => absurd hh (by decide)⟩
            obtain ⟨a, rfl⟩ : ∃ a : Nat, i = a := ⟨i.toNat, by omega⟩
            have hrow : ∀ k, k < 2 * N → I (40 + (49 + 2 * v) + 1) ((a + k : Nat) : Int) = rowAt l a k := fun k hk => hs.2.2.2.2 (a + k) (by omega)
            have e : opFromRow v (a : Int) (N : Int) S = (match rdW (rowAt l a) (2 * N) with
                | none => (-2, S)
                | some P => if fcC P = P.2.length + 2 then addP S P else (-2, S)) := by
              unfold opFromRow
              rw [if_neg g0, if_neg hS12, hg]
              simp only
              rw [if_neg hnn, if_neg (fun hh => hh hp)]
              rfl
            rw [e] at h
            rw [show (2 : Int) * (N : Int) = ((2 * N : Nat) : Int) by omega]
            refine t_Picture_readRow (p := 3) (f := rowAt l a) (by omega) hrow (by omega) (fun hn P J hP hf hs3 => ?_) (fun P J hn hR hP hf hs3 => ?_)
            · rw [hn] at h
              exact ⟨fun _ => h G J (hS.sf (hf.sf (by omega) (by omega)) (hS.1.kfr hf (by omega) (by omega))) (hf.sf (by omega) (by omega)).hi, fun hh => absurd rfl hh⟩
            · rw [hn] at h
              simp only at h
              have hSJ : CRep xs S J := hS.sf (hf.sf (by omega) (by omega)) (hS.1.kfr hf (by omega) (by omega))
              have hhJ := (hf.sf (by omega) (by omega)).hi
              refine ⟨fun hh => absurd hh (by decide), fun _ => t_Picture_canBeDrawn hP ?_⟩
              by_cases hc : fcC P = P.2.length + 2
              · rw [if_pos hc] at h
                rw [decide_eq_true hc]
                exact ⟨fun hh => absurd hh (by decide), fun _ => add_c hSJ hS12 hP hhJ h⟩
              · rw [if_neg hc] at h
                rw [decide_eq_false hc]
                exact ⟨fun _ => h G J hSJ hhJ, fun hh => absurd rfl hh⟩
          · rw [decide_eq_false (by omega)]
            exact ⟨fun hh => absurd rfl hh, fun _ => no _ (by unfold opFromRow; rw [if_neg g0, if_neg hS12, hg]; simp only; rw [if_neg hnn, if_pos hp])⟩
        · rw [show shIs (some (.inr (s, l))) 0 = false from decide_eq_false h0]
          exact ⟨fun hh => absurd rfl hh, fun _ => no _ (by unfold opFromRow; rw [if_neg g0, if_neg hS12, hg]; simp only; rw [if_pos h0])⟩
theorem ltr_lt {m x : Nat} {b : Int} (h : ltr m b = some x) : x < 2 * m - 2 := by
  unfold ltr at h
  simp only at h
  generalize decide (65 ≤ b ∧ b ≤ 90) = cap at h
  generalize (if cap = true then b - 65 else b - 97) = p at h
  have hc := Bool.toNat_le cap
  split at h
  · injection h with hx
    omega
  · cases h
theorem c_plait {xs : KS} {m : Int} (hO : Owed) : COk xs 89 [(0, 18, 0, 0), (1, 0, 0, m)] (opPlait m) := by
  intro d S G I Q hS hI h
  have hT := hS.2.1
  have no : ∀ r, opPlait m S = (r, S) → Q r G I := fun r e => by rw [e] at h; exact h G I hS (hif.rf I)
  refine b_C_plait_0 ⟨fun h1 => no _ (by unfold opPlait; rw [if_pos (Or.inl h1)]), fun h1 => ⟨fun h4 => ?_, fun h4 => no _ (by unfold opPlait; rw [if_pos (Or.inr h4)])⟩⟩
  rw [hS.1.1, hT.1]
  have hm : ¬ (m < 2 ∨ 4 < m) := by omega
  refine ⟨fun h12 => ?_, fun h12 => no _ (by unfold opPlait; rw [if_neg hm, if_pos (by omega)])⟩
  have hS12 : ¬ 12 ≤ S.1.length := by omega
  obtain ⟨M, rfl⟩ : ∃ M : Nat, m = M := ⟨m.toNat, by omega⟩
  unfold opPlait at h
  rw [if_neg hm, if_neg hS12] at h
  simp only [Int.toNat_natCast] at h
  refine t_C_faultOfWord (m := M) (f := fw8 S.2.1) (by omega) (by omega) hT.2.1 hT.1 (fun k hk => ⟨hT.2.2 k hk, w8_b _⟩) (fun J1 hf1 hw J2 e2 => ?_)
  have hf2 : ∀ a k, ¬ (a = 0 ∧ k = 1) → a ≠ 1 → ¬ (3 ≤ a ∧ a < 20) → J2 a k = I a k := fun a k n1 n2 n3 => by rw [e2, kst_n (by omega)]; exact hf1 a k (by omega)
  have hS2 : CRep xs (S.1, [], S.2.2) J2 := hS.tape hf2 (CTp.nil (by rw [e2, kst_s]))
  have hh2 : hif I J2 := fun a k hk => hf2 a k (by omega) (by omega) (by omega)
  by_cases hq : fnd (wbad M (fw8 S.2.1)) S.2.1.length < S.2.1.length
  · rw [if_pos hq] at h ⊢
    exact ⟨fun hh => by omega, fun _ => h G J2 hS2 hh2⟩
  · rw [if_neg hq] at h ⊢
    have hq2 : fnd (wbad M (fw8 S.2.1)) S.2.1.length = S.2.1.length := by have := fnd_le (wbad M (fw8 S.2.1)) S.2.1.length; omega
    have hnb : ∀ k, k < S.2.1.length → wbad M (fw8 S.2.1) k = false := fun k hk => fnd_min (by rw [hq2]; exact hk)
    have hn7 : S.2.1.length ≤ 7 := by
      rcases Nat.lt_or_ge 7 S.2.1.length with h8 | h8
      · have := hnb 7 h8
        unfold wbad at this
        rw [decide_eq_true (Nat.le_refl 7)] at this
        simp at this
      · exact h8
    have hlt : ∀ k, k < S.2.1.length → wsT M S.2.1 k < 2 * M - 2 := fun k hk => by
      have := hnb k hk
      unfold wbad at this
      rw [Bool.or_eq_false_iff] at this
      unfold wsT
      cases hl : ltr M (fw8 S.2.1 k) with
      | none => rw [hl] at this; simp at this
      | some x =>
        exact ltr_lt hl
    obtain ⟨hl, hR⟩ := hO.2.1 (wsT M S.2.1) S.2.1.length M (by omega) (by omega) hn7 hlt
    refine ⟨fun _ => t_Picture_beClosedP (p := 3) (ws := wsT M S.2.1) (by omega) (fun k hk => ⟨?_, hlt k hk⟩) hn7 hn7 (by omega) hl (fun J3 hP3 hf3 hs3 => ?_), fun hh => absurd rfl hh⟩
    · rw [e2, kst_n (by omega)]; exact hw k hk hq2
    · have hS3 : CRep xs (S.1, [], S.2.2) J3 := hS2.sf (hf3.sf (by omega) (by omega)) (hS2.1.kfr hf3 (by omega) (by omega))
      have hh3 : hif I J3 := fun a k hk => by rw [hf3 _ _ (by omega)]; exact hh2 a k hk
      cases hc : clO (wsT M S.2.1) S.2.1.length M with
      | false => rw [hc, if_neg (by simp)] at h; exact ⟨fun _ => h G J3 hS3 hh3, fun hh => absurd rfl hh⟩
      | true => rw [hc, if_pos rfl] at h; exact ⟨fun hh => absurd hh (by decide), fun _ => add_c hS3 hS12 hP3 hh3 h⟩
