/-! THE CLASS'S CALLS: rows shifted -/
theorem lay_len (l r : List Int) (i j n : Nat) : (lay l r i j n).length = r.length := by unfold lay; simp
theorem lay_at {l r : List Int} {i j n k : Nat} (h : k < r.length) : (lay l r i j n).getD k 0 = if j ≤ k ∧ k < j + n then l.getD (i + (k - j)) 0 else r.getD k 0 := by
  unfold lay
  rw [List.getD_eq_getElem?_getD, List.getElem?_map, List.getElem?_range h]; rfl
theorem c_shift {xs : KS} {v i e j n : Int} (hn : n < 2147483648) : COk xs 117 [(0, 18, 0, 0), (1, 0, 0, v), (2, 0, 0, i), (3, 0, 0, e), (4, 0, 0, j), (5, 0, 0, n)] (opShift v i e j n) := by
  intro d S G I Q hS hI h
  have no : ∀ r, opShift v i e j n S = (r, S) → Q r G I := fun r e => by rw [e] at h; exact h G I hS (hif.rf I)
  refine b_C_shift_0 (t_C_isShelf ⟨fun h1 => no _ (by unfold opShift; rw [if_pos (fun hh => of_decide_eq_false (bi0 h1) ⟨hh.1, hh.2.1⟩)]), fun h1 => t_C_isShelf ⟨fun h2 => ?_, fun h2 => no _ (by unfold opShift; rw [if_pos (fun hh => of_decide_eq_false (bi0 h2) ⟨hh.2.2.1, hh.2.2.2⟩)])⟩⟩)
  have hv : 0 ≤ v ∧ v < 6 := of_decide_eq_true (bi1 h1)
  have he : 0 ≤ e ∧ e < 6 := of_decide_eq_true (bi1 h2)
  have g0 : ¬ ¬ (0 ≤ v ∧ v < 6 ∧ 0 ≤ e ∧ e < 6) := by omega
  have hs := hS.2.2.2.2.2.1.at hv.1 hv.2
  have ht := hS.2.2.2.2.2.1.at he.1 he.2
  refine ⟨hv, he, ?_⟩
  cases hg : sget S.2.2.2.2.2 v with
  | none =>
    rw [hg] at hs
    rw [show I (40 + (49 + 2 * v)) 1 = 0 from hs]
    exact ⟨fun _ => no _ (by unfold opShift; rw [if_neg g0, hg]), fun hh => absurd rfl hh⟩
  | some z =>
    cases hk : sget S.2.2.2.2.2 e with
    | none =>
      rw [hk] at ht
      rw [show I (40 + (49 + 2 * e)) 1 = 0 from ht]
      have hz : I (40 + (49 + 2 * v)) 1 ≠ 0 := by
        rw [hg] at hs
        cases z with
        | inl b => rw [hs.1]; decide
        | inr q => rw [hs.1]; decide
      exact ⟨fun hh => absurd hh hz, fun _ => ⟨fun hh => absurd rfl hh, fun _ => no _ (by unfold opShift; rw [if_neg g0, hg, hk])⟩⟩
    | some y =>
      have hy : I (40 + (49 + 2 * e)) 1 ≠ 0 := by
        rw [hk] at ht
        cases y with
        | inl b => rw [ht.1]; decide
        | inr q => rw [ht.1]; decide
      cases z with
      | inl b =>
        rw [hg] at hs
        rw [hs.1]
        exact ⟨fun hh => absurd hh (by decide), fun _ => ⟨fun _ => ⟨fun _ => no _ (by unfold opShift; rw [if_neg g0, hg, hk]), fun hh => absurd hh (by decide)⟩, fun hh => absurd hh hy⟩⟩
      | inr q =>
        obtain ⟨s, l⟩ := q
        rw [hg] at hs
        rw [hs.1, hs.2.1]
        have hl60 : l.length ≤ 60 := hs.2.2.2.1
        refine ⟨fun hh => absurd hh (by decide), fun _ => ⟨fun _ => ⟨fun hh => absurd rfl hh, fun _ => ?_⟩, fun hh => absurd hh hy⟩⟩
        rw [hk] at ht
        refine t_Shelf_isRowOf ht ?_
        cases y with
        | inl b => exact ⟨fun hh => absurd rfl hh, fun _ => no _ (by unfold opShift; rw [if_neg g0, hg, hk])⟩
        | inr q =>
          obtain ⟨t, r⟩ := q
          have hr60 : r.length ≤ 60 := ht.2.2.2.1
          by_cases hst : s = t
          · rw [show shIs (some (.inr (t, r))) s = true from decide_eq_true hst.symm]
            have hnn : ¬ s ≠ t := fun hh => hh hst
            have bad : ¬ (0 ≤ i ∧ 0 ≤ n ∧ i ≤ (l.length : Int) - n ∧ 0 ≤ j ∧ j ≤ (r.length : Int) - n) → Q (-13) G I := fun hb => no _ (by unfold opShift; rw [if_neg g0, hg, hk]; simp only; rw [if_neg hnn, if_pos hb])
            refine ⟨fun _ => t_Shelf_hasPlaces hs ?_ hn, fun hh => absurd hh (by decide)⟩
            by_cases p1 : 0 ≤ i ∧ 0 ≤ n ∧ i ≤ (l.length : Int) - n
            · rw [decide_eq_true p1]
              refine ⟨fun hh => absurd hh (by decide), fun _ => t_Shelf_hasPlaces ht ?_ hn⟩
              by_cases p2 : 0 ≤ j ∧ 0 ≤ n ∧ j ≤ (r.length : Int) - n
              · rw [decide_eq_true p2]
                refine ⟨fun _ => ⟨by omega, fun J e1 => ?_⟩, fun hh => absurd hh (by decide)⟩
                obtain ⟨a, rfl⟩ : ∃ a : Nat, i = a := ⟨i.toNat, by omega⟩
                obtain ⟨b, rfl⟩ : ∃ b : Nat, j = b := ⟨j.toNat, by omega⟩
                obtain ⟨N, rfl⟩ : ∃ N : Nat, n = N := ⟨n.toNat, by omega⟩
                have eo : opShift v (a : Int) e (b : Int) (N : Int) S = ((N : Int), setSh S e (some (.inr (t, lay l r a b N)))) := by
                  unfold opShift; rw [if_neg g0, hg, hk]; simp only
                  rw [if_neg hnn, if_neg (by omega)]; rfl
                rw [eo] at h
                have hf : kfr (40 + (49 + 2 * e)) (40 + (49 + 2 * e) + 2) I J := fun x k hk => by rw [e1]; unfold kcpy; rw [if_neg (by omega)]
                have hx : CShf (40 + (49 + 2 * e)) (some (.inr (t, lay l r a b N))) J := by
                  obtain ⟨q1, q2, q3, q4, q5⟩ := ht
                  have g : ∀ k, J (40 + (49 + 2 * e)) k = I (40 + (49 + 2 * e)) k := fun k => by rw [e1]; unfold kcpy; rw [if_neg (by omega)]
                  refine ⟨by rw [g]; exact q1, by rw [g]; exact q2, by rw [g, lay_len]; exact q3, by rw [lay_len]; exact q4, fun k hk => ?_⟩
                  rw [lay_len] at hk
                  rw [lay_at hk, e1]; unfold kcpy
                  by_cases hb : b ≤ k ∧ k < b + N
                  · rw [if_pos hb, if_pos (by omega), show (a : Int) + ((k : Int) - (b : Int)) = ((a + (k - b) : Nat) : Int) by omega]
                    exact hs.2.2.2.2 _ (by omega)
                  · rw [if_neg hb, if_neg (by omega)]
                    exact q5 k hk
                have z := set_c hS he.1 he.2 hx hf
                exact h G J z.1 z.2
              · rw [decide_eq_false p2]
                exact ⟨fun hh => absurd rfl hh, fun _ => bad (by omega)⟩
            · rw [decide_eq_false p1]
              exact ⟨fun _ => bad (by omega), fun hh => absurd rfl hh⟩
          · rw [show shIs (some (.inr (t, r))) s = false from decide_eq_false (fun hh => hst hh.symm)]
            exact ⟨fun hh => absurd rfl hh, fun _ => no _ (by unfold opShift; rw [if_neg g0, hg, hk]; simp only; rw [if_pos hst])⟩
