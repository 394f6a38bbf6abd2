/-! THE MODEL: lines, the law by call -/
/-- where nothing is wrong, something was read -/
def Str (n : Nat) (S : LSg) : Prop := ∀ pl, pl ≤ n → (S pl false).2.2 = false → pl + 1 ≤ (S pl false).2.1
theorem str_lexp {f : Nat → Int} {n : Nat} {S : LSg} (hM : Mon n S) (h : Str n S) : Str n (lexp f n S) := by
  obtain ⟨m1, m2, m3, m4, m5⟩ := mon_lexp (f := f) hM
  have h1 : Str n (lmul f n S) := fun pl hpl hw => by
    have b := mon_lml (f := f) hM 120 (S pl false) (hM pl hpl).2
    unfold lmul at hw ⊢
    cases hr : (S pl false).2.2 with
    | true => rw [lml_w hr, hr] at hw; cases hw
    | false => exact Nat.le_trans (h pl hpl hr) b.1
  have h2 : Str n (ladd f n (lmul f n S)) := fun pl hpl hw => by
    have b := mon_lal (f := f) m1 120 (lmul f n S pl false) (m1 pl hpl).2
    unfold ladd at hw ⊢
    cases hr : (lmul f n S pl false).2.2 with
    | true => rw [lal_w hr, hr] at hw; cases hw
    | false => exact Nat.le_trans (h1 pl hpl hr) b.1
  have h3 : Str n (lcmp f n (ladd f n (lmul f n S))) := fun pl hpl hw => by
    have a := m2 pl hpl
    cases hr : (ladd f n (lmul f n S) pl false).2.2 with
    | true =>
      unfold lcmp at hw
      simp only at hw
      rw [if_pos hr] at hw
      rw [show ((0, (ladd f n (lmul f n S) pl false).2) : LR).2.2 = true from hr] at hw
      cases hw
    | false =>
      have s := h2 pl hpl hr
      have nx : lsg f n (ladd f n (lmul f n S) pl false).2.1 ≠ -1 → pl + 1 ≤ (ladd f n (lmul f n S) ((ladd f n (lmul f n S) pl false).2.1 + 1) false).2.1 := fun hl => by
        have := lsg_lt hl
        have b := m2 ((ladd f n (lmul f n S) pl false).2.1 + 1) (by omega)
        omega
      unfold lcmp
      simp only
      rw [if_neg (by rw [hr]; simp)]
      split
      · exact nx (by omega)
      · split
        · exact nx (by omega)
        · split
          · exact nx (by omega)
          · exact s
  have h4 : Str n (lbth f n (lcmp f n (ladd f n (lmul f n S)))) := fun pl hpl hw => by
    have b := mon_lbl (f := f) (c := 38) (op := fun a b => bi (decide (a ≠ 0 ∧ b ≠ 0))) (by decide) m3 120 (lcmp f n (ladd f n (lmul f n S)) pl false) (m3 pl hpl).2
    unfold lbth at hw ⊢
    cases hr : (lcmp f n (ladd f n (lmul f n S)) pl false).2.2 with
    | true => rw [lbl_w hr, hr] at hw; cases hw
    | false => exact Nat.le_trans (h3 pl hpl hr) b.1
  intro pl hpl hw
  have b := mon_lbl (f := f) (c := 124) (op := fun a b => bi (decide (a ≠ 0 ∨ b ≠ 0))) (by decide) m4 120 (lbth f n (lcmp f n (ladd f n (lmul f n S))) pl false) (m4 pl hpl).2
  unfold lexp leit at hw ⊢
  cases hr : (lbth f n (lcmp f n (ladd f n (lmul f n S))) pl false).2.2 with
  | true => rw [lbl_w hr, hr] at hw; cases hw
  | false => exact Nat.le_trans (h4 pl hpl hr) b.1
theorem str_lsU {f : Nat → Int} {n : Nat} {e : Int → Int} : ∀ u, Str n (lsU f n e u)
  | u, pl, hpl, hw => by
    have hn : (lnd f n e pl false).2.2 = false → pl + 1 ≤ (lnd f n e pl false).2.1 := by
      unfold lnd
      split
      · exact fun _ => Nat.le_refl _
      · split
        · exact fun _ => Nat.le_refl _
        · split
          · exact fun _ => Nat.le_refl _
          · split
            · exact fun _ => Nat.le_refl _
            · split
              · exact fun _ => Nat.le_refl _
              · exact fun hh => by cases hh
    have hd : 48 ≤ lsg f n pl ∧ lsg f n pl ≤ 57 → pl + 1 ≤ (lnm f n 4 0 pl).2 := fun hd => by
      have hl := lsg_lt (f := f) (n := n) (pl := pl) (by omega)
      rw [show lnm f n 4 0 pl = lnm f n 3 (10 * 0 + lsg f n pl - 48) (pl + 1) from by rw [lnm, if_pos hd]]
      exact (mon_lnm (f := f) (n := n) 3 _ (pl + 1) (by omega)).1
    match u with
    | 0 =>
      unfold lsU lsn at hw ⊢
      by_cases c1 : 48 ≤ lsg f n pl ∧ lsg f n pl ≤ 57
      · rw [if_pos c1]; exact hd c1
      · rw [if_neg c1] at hw ⊢
        by_cases c2 : lsg f n pl = 40 ∨ lsg f n pl = 33 ∨ lsg f n pl = 45
        · rw [if_pos c2] at hw; cases hw
        · rw [if_neg c2] at hw ⊢; exact hn hw
    | u + 1 =>
      have ih := mon_lsU (f := f) (n := n) (e := e) u
      have ihe := (mon_lexp (f := f) ih).2.2.2.2
      unfold lsU lsn at hw ⊢
      by_cases c1 : 48 ≤ lsg f n pl ∧ lsg f n pl ≤ 57
      · rw [if_pos c1]; exact hd c1
      · rw [if_neg c1] at hw ⊢
        by_cases c2 : lsg f n pl = 40 ∨ lsg f n pl = 33 ∨ lsg f n pl = 45
        · rw [if_pos c2]
          have hl := lsg_lt (f := f) (n := n) (pl := pl) (by omega)
          unfold lopn
          split
          · have := ih (pl + 1) (by omega); simp only; omega
          · split
            · have := ih (pl + 1) (by omega); simp only; omega
            · have a := ihe (pl + 1) (by omega)
              simp only
              split
              · omega
              · split <;> simp only <;> omega
        · rw [if_neg c2] at hw ⊢; exact hn hw
def mwf (I I' : KI) : Prop := ∀ a k, ¬ (a = 101 ∧ 20 ≤ k ∧ k ≤ 24) → I' a k = I a k
theorem mpf.w {I J K : KI} (h : mwf I J) (g : mpf J K) : mwf I K := fun a k hk => (g a k (by omega)).trans (h a k hk)
theorem mwf.nm {I J : KI} {e : Int → Int} (h : mwf I J) (hn : ∀ k : Nat, k < 5 → I 118 (k : Int) = e (6 + k)) : ∀ k : Nat, k < 5 → J 118 (k : Int) = e (6 + k) := fun k hk => by rw [h _ _ (by omega)]; exact hn k hk
theorem t_M_workOut {xs : KS} {d n : Nat} {b : Int} {f g : Nat → Int} {e : Int → Int} {G : KG} {I : KI} {Q : KQ} (hfg : SgOk f g n) (hn : n ≤ 120) (ht : (b = -1 ∧ ∀ k : Nat, k < n → I 116 (k : Int) = g k) ∨ (b = 0 ∧ ∀ k : Nat, k < n → I 117 (k : Int) = g k)) (he : ∀ k : Nat, k < 5 → I 118 (k : Int) = e (6 + k))
    (h : ∀ (v o' : Int) (I' : KI), MLw g n (wor f n e).2.1 (wor f n e).2.2 o' I' → ((wor f n e).2.2 = false → v = (wor f n e).1) → mwf I I' → Q v G I') : kWP xs true (d + 43) 0 0 183 0 [(0, 19, 0, 101), (1, 0, 0, b), (2, 0, 0, (n : Int))] [] G I Q := by
  refine b_M_workOut_0 (fun J1 e1 J2 e2 J3 e3 J4 e4 J5 e5 => ?_)
  have hf5 : mwf I J5 := fun a k hk => by rw [e5, kst_n (by omega), e4, kst_n (by omega), e3, kst_n (by omega), e2, kst_n (by omega), e1, kst_n (by omega)]
  have hC : MLw g n 0 false 0 J5 := by
    refine ⟨⟨hn, ?_, ?_⟩, ?_, Nat.zero_le _, fun _ => ⟨?_, ?_⟩, fun hh => by cases hh⟩
    · rw [e5, kst_n (by omega), e4, kst_n (by omega), e3, kst_s]
    · have g20 : J5 101 20 = b := by rw [e5, kst_n (by omega), e4, kst_n (by omega), e3, kst_n (by omega), e2, kst_n (by omega), e1, kst_s]
      rw [g20]
      rcases ht with ⟨x, y⟩ | ⟨x, y⟩
      · exact Or.inl ⟨x, fun k hk => by rw [hf5 _ _ (by omega)]; exact y k hk⟩
      · exact Or.inr ⟨x, fun k hk => by rw [hf5 _ _ (by omega)]; exact y k hk⟩
    · rw [e5, kst_n (by omega), e4, kst_n (by omega), e3, kst_n (by omega), e2, kst_s]; rfl
    · rw [e5, kst_n (by omega), e4, kst_s]
    · rw [e5, kst_s]
  have hM := (mon_lexp (f := f) (mon_lsU (f := f) (n := n) (e := e) 6)).2.2.2.2
  have hSt := str_lexp (f := f) (mon_lsU 6) (str_lsU (f := f) (n := n) (e := e) 6)
  unfold wor at h
  generalize hW : wthL f n (lE f n e) 120 0 false 0 = W at h
  -- the end
  have stop : ∀ (v3 v4 : Int) (q : Nat × Bool) (J : KI), MLw g n q.1 q.2 0 J → mwf I J → (q.2 = true ∨ mby g n q.1 ≠ 59) → (∀ a c, wend f n a c = wend f n a c) → (q.2 = true → W.2 = q) → (q.2 = false → W = if n ≤ q.1 then (v4, q) else (v4, q.1, true)) → kWP xs true (d + 43) 0 0 183 33 [(0, 19, 0, 101), (3, 0, 0, v3), (4, 0, 0, v4), (5, 0, 0, 0)] [] G J Q := by
    intro v3 v4 q J hJ hf hs _ hw1 hw0
    refine b_M_workOut_33 ⟨fun _ => ?_, fun hh => absurd rfl hh⟩
    cases hq : q.2 with
    | true =>
      have h23 := hJ.2.2.2.2 hq
      rw [h23]
      refine ⟨fun _ => ?_, fun hh => by omega⟩
      have e0 := hw1 hq
      exact h v4 0 J (by rw [e0]; exact hJ) (fun hh => by rw [e0, hq] at hh; cases hh) hf
    | false =>
      have e0 := hw0 hq
      rw [hq] at hJ
      rw [(hJ.2.2.2.1 rfl).1, hJ.1.2.1, hJ.2.1]
      refine ⟨fun hh => absurd hh (by decide), fun _ => ⟨fun hl => ?_, fun hl => t_M_wrong hJ (fun o' J1 hJ1 hf1 => ?_)⟩⟩
      · rw [if_pos (by omega)] at e0
        rw [e0] at h
        exact h v4 0 J (by show MLw g n q.1 q.2 0 J; rw [hq]; exact hJ) (fun _ => rfl) hf
      · rw [if_neg (by omega)] at e0
        rw [e0] at h
        exact h 0 o' J1 hJ1 (fun hh => by cases hh) (hf1.w hf)
  suffices key : ∀ (k : Nat) (a : Int) (c : Bool) (pl : Nat) (J : KI), n + 1 ≤ pl + 2 * k → MLw g n pl false 0 J → mwf I J → wthL f n (lE f n e) k a c pl = W → kWP xs true (d + 43) 0 0 183 33 [(0, 19, 0, 101), (3, 0, 0, bi c), (4, 0, 0, a), (5, 0, 0, 1)] [] G J Q from key 120 0 false 0 J5 (by omega) hC hf5 hW
  intro k
  induction k with
  | zero => intro a c pl J hk hJ; have := hJ.2.2.1; omega
  | succ k ih =>
    intro a c pl J hk hJ hf hl
    have hpl := hJ.2.2.1
    -- behind a line
    have tl : ∀ (a' : Int) (c' : Bool) (q : Nat × Bool) (J : KI), (q.2 = false → pl + 1 ≤ q.1) → wend f n (wthL f n (lE f n e) k) a' c' q = W → MLw g n q.1 q.2 0 J → mwf I J → kWP xs true (d + 42) 0 0 175 0 [(0, 19, 0, 101), (1, 0, 0, 59)] [] G J (fun r4 G4 I4 => kWP xs true (d + 43) 0 0 183 33 [(0, 19, 0, 101), (3, 0, 0, bi c'), (4, 0, 0, a'), (5, 0, 0, r4)] [] G4 I4 Q) := by
      intro a' c' q J hq hl hJ hf
      unfold wend at hl
      refine t_M_takes (by decide) hJ (fun hn => stop _ _ q J hJ hf hn (fun _ _ => rfl) (fun hw => ?_) (fun hw => ?_)) (fun J1 hw hm hJ1 hf1 => ?_)
      · rw [if_pos (Or.inl hw)] at hl
        rw [← hl]
      · by_cases hle : n ≤ q.1
        · rw [if_pos (Or.inr hle)] at hl
          rw [← hl, if_pos hle]
        · have n59 : lsg f n q.1 ≠ 59 := fun hh => by
            rcases hn with hn | hn
            · rw [hw] at hn; cases hn
            · exact hn ((mby_c hfg (by decide) (by decide)).mpr hh)
          rw [if_neg (by rw [hw]; simp; omega), if_neg n59] at hl
          rw [← hl, if_neg hle]
      · have y := (mby_c hfg (by decide) (by decide)).mp hm
        have hlt := lsg_lt (f := f) (n := n) (pl := q.1) (by omega)
        rw [if_neg (by rw [hw]; simp; omega), if_pos y] at hl
        have := hq hw
        have h := ih a' c' (q.1 + 1) J1 (by omega) hJ1 (hf1.w hf) hl
        -- one more line
        exact h
    unfold wthL at hl
    simp only at hl
    have hm0 := hM pl hpl
    have hs0 := hSt pl hpl
    refine b_M_workOut_33 ⟨fun hh => absurd hh (by decide), fun _ => mlv_E hfg d pl G J _ hJ (hf.nm he) (fun v o1 J1 hJ1 hv1 hf1 => ?_)⟩
    have hf1' := hf1.w hf
    cases hw : (lE f n e pl false).2.2 with
    | true =>
      rw [if_pos hw] at hl
      have hJ1' := hJ1
      rw [hw] at hJ1
      have h23 := hJ1.2.2.2.2 rfl
      refine t_M_takes (by decide) hJ1 (fun _ => ⟨fun _ => ⟨fun _ => ?_, fun hh => by omega⟩, fun hh => absurd rfl hh⟩) (fun _ hh _ _ _ => by cases hh)
      refine t_M_takes (by decide) hJ1 (fun _ => ?_) (fun _ hh _ _ _ => by cases hh)
      have e0 : W.2 = (lE f n e pl false).2 := by
        rw [← hl]
        unfold wln wend
        split
        · rw [if_pos (Or.inl hw)]
        · split
          · rw [if_pos (Or.inl hw)]
          · rw [if_pos (Or.inl hw)]
      exact stop _ _ (lE f n e pl false).2 J1 (hJ1'.o (fun hh => by rw [hw] at hh; cases hh)) hf1' (Or.inl hw) (fun _ _ => rfl) (fun _ => e0) (fun hh => by rw [hw] at hh; cases hh)
    | false =>
      obtain ⟨hvv, ho1⟩ := hv1 hw
      have nw : ¬ (lE f n e pl false).2.2 = true := by rw [hw]; simp
      rw [if_neg nw] at hl
      have hs1 := hs0 hw
      have hJ1' := hJ1.o (fun _ => ho1)
      rw [hw] at hJ1'
      refine t_M_takes (by decide) hJ1' (fun hn => ⟨fun _ => ?_, fun hh => absurd rfl hh⟩) (fun J2 _ hm hJ2 hf2 => ⟨fun hh => absurd hh (by decide), fun _ => ?_⟩)
      · have n63 : lsg f n (lE f n e pl false).2.1 ≠ 63 := fun hh => by
          rcases hn with hn | hn
          · cases hn
          · exact hn ((mby_c hfg (by decide) (by decide)).mpr hh)
        rw [if_neg n63] at hl
        rw [(hJ1'.2.2.2.1 rfl).1]
        refine ⟨fun hh => absurd hh (by decide), fun _ => ⟨fun hh => absurd hh (by decide), fun _ => ⟨fun hc => ?_, fun hc => ?_⟩⟩⟩
        · have hc := bi1 hc
          unfold wln at hl
          rw [if_pos hc] at hl
          rw [hc]
          exact tl a true (lE f n e pl false).2 J1 (fun _ => hs1) hl (by rw [hw]; exact hJ1') hf1'
        · have hc := bi0 hc
          unfold wln at hl
          rw [if_neg (by rw [hc]; simp), if_pos (Or.inl rfl)] at hl
          rw [hvv]
          exact tl _ true (lE f n e pl false).2 J1 (fun _ => hs1) hl (by rw [hw]; exact hJ1') hf1'
      · have y63 := (mby_c hfg (by decide) (by decide)).mp hm
        rw [if_pos y63] at hl
        have hlt := lsg_lt (f := f) (n := n) (pl := (lE f n e pl false).2.1) (by omega)
        have hm3 := hM ((lE f n e pl false).2.1 + 1) (by omega)
        have hf2' := hf2.w hf1'
        have go : ∀ s0 : Bool, s0 = decide ((lE f n e pl false).1 ≠ 0) → kWP xs true (d + 43) 0 0 183 66 [(0, 19, 0, 101), (3, 0, 0, bi c), (4, 0, 0, a)] [(0, 0, bi s0)] G J2 Q := by
          intro s0 hs0'
          refine b_M_workOut_66 (mlv_E hfg d _ G J2 _ hJ2 (hf2'.nm he) (fun v2 o2 J3 hJ3 hv2 hf3 => ?_))
          have hf3' := hf3.w hf2'
          cases hw2 : (lE f n e ((lE f n e pl false).2.1 + 1) false).2.2 with
          | true =>
            have hJ3' := hJ3
            rw [hw2] at hJ3
            have h23 := hJ3.2.2.2.2 rfl
            rw [h23]
            refine ⟨fun _ => ?_, fun hh => by omega⟩
            refine t_M_takes (by decide) hJ3 (fun _ => ?_) (fun _ hh _ _ _ => by cases hh)
            have e0 : W.2 = (lE f n e ((lE f n e pl false).2.1 + 1) false).2 := by
              rw [← hl]
              unfold wln wend
              split
              · rw [if_pos (Or.inl hw2)]
              · split
                · rw [if_pos (Or.inl hw2)]
                · rw [if_pos (Or.inl hw2)]
            exact stop _ _ (lE f n e ((lE f n e pl false).2.1 + 1) false).2 J3 (hJ3'.o (fun hh => by rw [hw2] at hh; cases hh)) hf3' (Or.inl hw2) (fun _ _ => rfl) (fun _ => e0) (fun hh => by rw [hw2] at hh; cases hh)
          | false =>
            obtain ⟨hvv2, ho2⟩ := hv2 hw2
            have hJ3' := hJ3.o (fun _ => ho2)
            rw [hw2] at hJ3'
            have hst : (lE f n e ((lE f n e pl false).2.1 + 1) false).2.2 = false → pl + 1 ≤ (lE f n e ((lE f n e pl false).2.1 + 1) false).2.1 := fun _ => by have := hm3.1; unfold lE at *; omega
            rw [(hJ3'.2.2.2.1 rfl).1]
            unfold wln at hl
            refine ⟨fun hh => absurd hh (by decide), fun _ => ⟨fun z => ?_, fun z => ⟨fun hc => ?_, fun hc => ?_⟩⟩⟩
            · have hz := of_decide_eq_false (hs0'.symm.trans (bi0 z))
              cases hc : c with
              | true =>
                rw [if_pos hc] at hl
                exact tl a true _ J3 hst hl (by rw [hw2]; exact hJ3') hf3'
              | false =>
                rw [if_neg (by rw [hc]; simp), if_neg (fun hh => by rcases hh with hh | hh; cases hh; exact hz hh)] at hl
                exact tl a false _ J3 hst hl (by rw [hw2]; exact hJ3') hf3'
            · have hc := bi1 hc
              rw [if_pos hc] at hl
              rw [hc]
              exact tl a true _ J3 hst hl (by rw [hw2]; exact hJ3') hf3'
            · have hc := bi0 hc
              have hz := of_decide_eq_true (hs0'.symm.trans (bi1 z))
              rw [if_neg (by rw [hc]; simp), if_pos (Or.inr hz)] at hl
              rw [hvv2]
              exact tl _ true _ J3 hst hl (by rw [hw2]; exact hJ3') hf3'
        refine ⟨fun z => go false ?_, fun z => go true ?_⟩
        · rw [decide_eq_false (fun hh => hh (by rw [← hvv]; exact z))]
        · rw [decide_eq_true (by rw [← hvv]; exact z)]
