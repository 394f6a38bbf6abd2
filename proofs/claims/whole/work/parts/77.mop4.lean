/-! THE MODEL'S CALLS: rows shifted -/
theorem sh_lo {S : Shf} {i : Nat} {I : KI} (h : MShf i S I) : (S = none ↔ I 125 (i : Int) < 0) := by
  match S, h with
  | none, h => exact ⟨fun _ => by rw [show I 125 (i : Int) = -1 from h]; decide, fun _ => rfl⟩
  | some (.inl b), h => exact ⟨fun e => (by cases e), fun e => (by have := h.1; omega)⟩
  | some (.inr (s, l)), h => exact ⟨fun e => (by cases e), fun e => (by have := h.1; omega)⟩
theorem m_shift {xs : KS} {v i e j n : Int} (hn : n < 2147483648) : MOk xs 241 [(0, 19, 0, 101), (1, 0, 0, v), (2, 0, 0, i), (3, 0, 0, e), (4, 0, 0, j), (5, 0, 0, n)] (opShift v i e j n) := by
  intro d S G I Q hS hI h
  have no : ∀ r, opShift v i e j n S = (r, S) → Q r G I := fun r e => by rw [e] at h; exact h G I hS (lof.rf I)
  refine b_M_shift_0 (t_M_isShelf ⟨fun h1 => no _ (by unfold opShift; rw [if_pos (fun hh => of_decide_eq_false (bi0 h1) ⟨hh.1, hh.2.1⟩)]), fun h1 => t_M_isShelf ⟨fun h2 => ?_, fun h2 => no _ (by unfold opShift; rw [if_pos (fun hh => of_decide_eq_false (bi0 h2) ⟨hh.2.2.1, hh.2.2.2⟩)])⟩⟩)
  have hv : 0 ≤ v ∧ v < 6 := of_decide_eq_true (bi1 h1)
  have he : 0 ≤ e ∧ e < 6 := of_decide_eq_true (bi1 h2)
  have g0 : ¬ ¬ (0 ≤ v ∧ v < 6 ∧ 0 ≤ e ∧ e < 6) := by omega
  have hs := hS.2.2.2.2.2.at hv.1 hv.2
  have ht := hS.2.2.2.2.2.at he.1 he.2
  obtain ⟨w, rfl⟩ : ∃ w : Nat, v = w := ⟨v.toNat, by omega⟩
  obtain ⟨y, rfl⟩ : ∃ y : Nat, e = y := ⟨e.toNat, by omega⟩
  simp only [Int.toNat_natCast] at hs ht
  refine ⟨hv, ?_⟩
  cases hg : sget S.2.2.2.2.2 (w : Int) with
  | none =>
    have l1 := (sh_lo hs).mp hg
    exact ⟨fun _ => no _ (by unfold opShift; rw [if_neg g0, hg]), fun hh => by omega⟩
  | some z =>
    have n1 : ¬ I 125 (w : Int) < 0 := fun hh => by have := (sh_lo hs).mpr hh; rw [hg] at this; cases this
    refine ⟨fun hh => absurd hh n1, fun _ => ⟨he, ?_⟩⟩
    cases hk : sget S.2.2.2.2.2 (y : Int) with
    | none =>
      have l2 := (sh_lo ht).mp hk
      exact ⟨fun hh => by omega, fun _ => no _ (by unfold opShift; rw [if_neg g0, hg, hk])⟩
    | some x =>
      have n2 : ¬ I 125 (y : Int) < 0 := fun hh => by have := (sh_lo ht).mpr hh; rw [hk] at this; cases this
      refine ⟨fun _ => ⟨hv, ?_⟩, fun hh => absurd hh n2⟩
      cases z with
      | inl b =>
        rw [hg] at hs
        have hb := hs.2
        rw [hs.1]
        exact ⟨fun _ => no _ (by unfold opShift; rw [if_neg g0, hg, hk]), fun hh => by omega⟩
      | inr q =>
        obtain ⟨s, l⟩ := q
        rw [hg] at hs
        obtain ⟨a1, a2, a3, a4⟩ := hs
        rw [a1, a2]
        refine ⟨fun hh => by omega, fun _ => ⟨hv, he, ?_⟩⟩
        cases x with
        | inl b =>
          rw [hk] at ht
          have hb := ht.2
          rw [ht.1]
          exact ⟨fun hh => by omega, fun _ => no _ (by unfold opShift; rw [if_neg g0, hg, hk])⟩
        | inr q =>
          obtain ⟨t, r⟩ := q
          rw [hk] at ht
          obtain ⟨b1, b2, b3, b4⟩ := ht
          rw [b1, b2]
          refine ⟨fun hst => ?_, fun hst => no _ (by unfold opShift; rw [if_neg g0, hg, hk]; simp only; rw [if_pos (by omega)])⟩
          have hnn : ¬ s ≠ t := by omega
          have bad : ¬ (0 ≤ i ∧ 0 ≤ n ∧ i ≤ (l.length : Int) - n ∧ 0 ≤ j ∧ j ≤ (r.length : Int) - n) → Q (-13) G I := fun hb => no _ (by unfold opShift; rw [if_neg g0, hg, hk]; simp only; rw [if_neg hnn, if_pos hb])
          refine ⟨fun hh => bad (by omega), fun p1 => ⟨fun hh => bad (by omega), fun p2 => ⟨fun hh => bad (by omega), fun p3 => ?_⟩⟩⟩
          rw [w32_id (x := (l.length : Int) - n) (by omega) (by omega), w32_id (x := (r.length : Int) - n) (by omega) (by omega)]
          refine ⟨hv, fun hh => bad (by omega), fun p4 => ⟨he, fun p5 => ?_, fun hh => bad (by omega)⟩⟩
          obtain ⟨a, rfl⟩ : ∃ a : Nat, i = a := ⟨i.toNat, by omega⟩
          obtain ⟨b, rfl⟩ : ∃ b : Nat, j = b := ⟨j.toNat, by omega⟩
          obtain ⟨N, rfl⟩ : ∃ N : Nat, n = N := ⟨n.toNat, by omega⟩
          have eo : opShift (w : Int) (a : Int) (y : Int) (b : Int) (N : Int) S = ((N : Int), setSh S (y : Int) (some (.inr (t, lay l r a b N)))) := by
            unfold opShift; rw [if_neg g0, hg, hk]; simp only
            rw [if_neg hnn, if_neg (by omega)]; rfl
          rw [eo] at h
          -- laid over
          have over : ∀ J : KI, (∀ x k, x ≠ 128 → J x k = I x k) → (∀ k : Nat, k < N → J 128 (k : Int) = l.getD (a + k) 0) → kWP xs true (d + 80) 0 0 241 150 [(0, 19, 0, 101), (3, 0, 0, (y : Int)), (4, 0, 0, (b : Int)), (5, 0, 0, (N : Int)), (6, 0, 0, ((0 : Nat) : Int))] [] G J Q := by
            intro J0 hf0 hc0
            refine loop_up (n := N) (W := fun m => ∀ J : KI, shfr y I J → J 125 (y : Int) = 50 + (t : Int) → J 126 (y : Int) = (r.length : Int) → (∀ k : Nat, k < N → J 128 (k : Int) = l.getD (a + k) 0) → (∀ k : Nat, k < r.length → J 127 ((60 * y + k : Nat) : Int) = if b ≤ k ∧ k < b + m then l.getD (a + (k - b)) 0 else r.getD k 0) → kWP xs true (d + 80) 0 0 241 150 [(0, 19, 0, 101), (3, 0, 0, (y : Int)), (4, 0, 0, (b : Int)), (5, 0, 0, (N : Int)), (6, 0, 0, (m : Int))] [] G J Q) ?_ ?_ (Nat.zero_le _) J0 (fun x k _ _ _ n4 => hf0 x k n4) (by rw [hf0 _ _ (by omega)]; exact b1) (by rw [hf0 _ _ (by omega)]; exact b2) hc0 (fun k hk => by rw [if_neg (by omega), hf0 _ _ (by omega)]; exact b4 k hk)
            · intro J hf g25 g26 hc hr
              refine b_M_shift_150 ⟨fun _ => ?_, fun hh => by omega⟩
              have hx : MShf y (some (.inr (t, lay l r a b N))) J := by
                refine ⟨g25, by rw [lay_len]; exact g26, by rw [lay_len]; exact b3, fun k hk => ?_⟩
                rw [lay_len] at hk
                rw [hr k hk, lay_at hk]
              have z := set_m hS (by omega) hx hf
              exact h G J z.1 z.2
            · intro m hm ih J hf g25 g26 hc hr
              refine b_M_shift_150 ⟨fun hh => by omega, fun _ => ⟨by omega, ?_⟩⟩
              rw [w32_id (x := 60 * (y : Int)) (by omega) (by omega), w32_id (x := 60 * (y : Int) + (b : Int)) (by omega) (by omega), w32_id (x := 60 * (y : Int) + (b : Int) + (m : Int)) (by omega) (by omega), hc m hm, show 60 * (y : Int) + (b : Int) + (m : Int) = ((60 * y + (b + m) : Nat) : Int) by omega, w32_inc (by omega)]
              refine ⟨by omega, fun J1 e1 => ih J1 (fun x k q1 q2 q3 q4 => by rw [e1, kst_n (by omega)]; exact hf x k q1 q2 q3 q4) (by rw [e1, kst_n (by omega)]; exact g25) (by rw [e1, kst_n (by omega)]; exact g26) (fun k hk => by rw [e1, kst_n (by omega)]; exact hc k hk) (fun k hk => ?_)⟩
              rw [e1]
              by_cases hkm : k = b + m
              · rw [hkm, kst_s, if_pos (by omega), show b + m - b = m by omega]
              · rw [kst_n (by omega), hr k hk]
                by_cases hkb : b ≤ k ∧ k < b + m
                · rw [if_pos hkb, if_pos (show b ≤ k ∧ k < b + (m + 1) by omega)]
                · rw [if_neg hkb, if_neg (show ¬ (b ≤ k ∧ k < b + (m + 1)) by omega)]
          refine loop_up (n := N) (W := fun m => ∀ J : KI, (∀ x k, x ≠ 128 → J x k = I x k) → (∀ k : Nat, k < m → J 128 (k : Int) = l.getD (a + k) 0) → kWP xs true (d + 80) 0 0 241 113 [(0, 19, 0, 101), (1, 0, 0, (w : Int)), (2, 0, 0, (a : Int)), (3, 0, 0, (y : Int)), (4, 0, 0, (b : Int)), (5, 0, 0, (N : Int)), (6, 0, 0, (m : Int))] [] G J Q) ?_ ?_ (Nat.zero_le _) I (fun _ _ _ => rfl) (fun k hk => absurd hk (Nat.not_lt_zero k))
          · intro J hf hc
            exact b_M_shift_113 ⟨fun _ => over J hf hc, fun hh => by omega⟩
          · intro m hm ih J hf hc
            refine b_M_shift_113 ⟨fun hh => by omega, fun _ => ?_⟩
            rw [w32_id (x := 60 * (w : Int)) (by omega) (by omega), w32_id (x := 60 * (w : Int) + (a : Int)) (by omega) (by omega), w32_id (x := 60 * (w : Int) + (a : Int) + (m : Int)) (by omega) (by omega), show 60 * (w : Int) + (a : Int) + (m : Int) = ((60 * w + (a + m) : Nat) : Int) by omega, w32_inc (by omega), hf 127 _ (by omega), a4 (a + m) (by omega)]
            refine ⟨by omega, by omega, fun J1 e1 => ih J1 (fun x k q => by rw [e1, kst_n (by omega)]; exact hf x k q) (fun k hk => ?_)⟩
            rw [e1]
            by_cases hkm : k = m
            · rw [hkm, kst_s]
            · rw [kst_n (by omega)]; exact hc k (by omega)
