/-! THE MODEL: the state; sums compared -/
/-- a sum by powers from -60 on -/
def vx (V : Nat → Int) (e : Nat) : Int := if 18 ≤ e ∧ e ≤ 102 ∧ e % 2 = 0 then V ((e - 18) / 2) else 0
def MCf (a : Int) (V : Nat → Int) (I : KI) : Prop := ∀ e : Nat, e < 121 → I a (e : Int) = vx V e
theorem vx_at (V : Nat → Int) {k : Nat} (h : k < 43) : vx V (18 + 2 * k) = V k := by
  unfold vx
  rw [if_pos (by omega), show (18 + 2 * k - 18) / 2 = k by omega]
theorem vx_0 {V : Nat → Int} {e : Nat} (h : ∀ k, k < 43 → e = 18 + 2 * k → V k = 0) : vx V e = 0 := by
  unfold vx
  split
  · rename_i h1
    exact h _ (by omega) (by omega)
  · rfl
theorem t_M_isPlain {xs : KS} {d : Nat} {V : Nat → Int} {G : KG} {I : KI} {Q : KQ} (hV : MCf 113 V I) (h : Q (bi (isPl V)) G I) : kWP xs true (d) 0 0 162 0 [(0, 19, 0, 101)] [] G I Q := by
  refine b_M_isPlain_0 ?_
  refine loop_up (n := 121) (W := fun i => (∀ j, j < i → vx V j = if j = 60 then 1 else 0) → kWP xs true (d) 0 0 162 2 [(0, 19, 0, 101), (1, 0, 0, (i : Int))] [] G I Q) ?_ ?_ (Nat.zero_le _) (fun i hi => absurd hi (Nat.not_lt_zero i))
  · intro hi
    refine b_M_isPlain_2 ⟨fun _ => ?_, fun h1 => by omega⟩
    have : isPl V = true := isPl_iff.mpr (fun k hk => by
      rw [← vx_at V hk, hi _ (by omega)]
      by_cases e : k = 21
      · rw [if_pos (by omega), if_pos e]
      · rw [if_neg (by omega), if_neg e])
    rw [this] at h
    exact h
  · intro i hi ih hl
    have no : vx V i ≠ (if i = 60 then 1 else 0) → Q 0 G I := fun hne => by
      have : isPl V = false := Bool.eq_false_iff.mpr (fun hh => hne (by
        have hp := isPl_iff.mp hh
        by_cases e : i = 60
        · rw [if_pos e, e, show 60 = 18 + 2 * 21 from rfl, vx_at V (by omega), hp 21 (by omega), if_pos rfl]
        · rw [if_neg e]
          exact vx_0 (fun k hk hik => by rw [hp k hk, if_neg (by omega)])))
      rw [this] at h
      exact h
    refine b_M_isPlain_2 ⟨fun h1 => by omega, fun _ => ⟨by omega, ?_⟩⟩
    rw [hV i hi, w32_inc (by omega)]
    refine ⟨fun h1 => ⟨fun h2 => ih (all_step (p := fun j => vx V j = if j = 60 then 1 else 0) hl ?_), fun h2 => no ?_⟩, fun h1 => ⟨fun h2 => ih (all_step (p := fun j => vx V j = if j = 60 then 1 else 0) hl ?_), fun h2 => no ?_⟩⟩
    · rw [if_neg (by omega)]; exact h2
    · rw [if_neg (by omega)]; exact h2
    · rw [if_pos (by omega)]; exact h2
    · rw [if_pos (by omega)]; exact h2
theorem t_M_keepsSum {xs : KS} {d : Nat} {V : Nat → Int} {G : KG} {I : KI} {Q : KQ} (hV : MCf 113 V I) (h : ∀ I' : KI, MCf 115 V I' → kfr 115 116 I I' → Q 0 G I') : kWP xs true (d) 0 0 163 0 [(0, 19, 0, 101)] [] G I Q := by
  refine b_M_keepsSum_0 ?_
  refine loop_up (n := 121) (W := fun i => ∀ J : KI, (∀ j : Nat, j < i → J 115 (j : Int) = vx V j) → kfr 115 116 I J → kWP xs true (d) 0 0 163 2 [(0, 19, 0, 101), (1, 0, 0, (i : Int))] [] G J Q) ?_ ?_ (Nat.zero_le _) I (fun i hi => absurd hi (Nat.not_lt_zero i)) (kfr.rf _ _ _)
  · intro J hJ hf
    exact b_M_keepsSum_2 ⟨fun _ => h J hJ hf, fun hh => by omega⟩
  · intro i hi ih J hJ hf
    refine b_M_keepsSum_2 ⟨fun hh => by omega, fun _ => ⟨by omega, by omega, fun J1 e1 => ?_⟩⟩
    rw [hf _ _ (by omega), hV i hi] at e1
    rw [w32_inc (by omega)]
    refine ih J1 (fun j hj => ?_) (hf.tr (fun a k hk => by rw [e1, kst_n (by omega)]))
    rw [e1]
    by_cases hji : j = i
    · rw [hji, kst_s]
    · rw [kst_n (by omega)]; exact hJ j (by omega)
theorem t_M_isLikeOther {xs : KS} {d : Nat} {V W : Nat → Int} {G : KG} {I : KI} {Q : KQ} (hV : MCf 113 V I) (hW : MCf 115 W I) (h : Q (bi (eqV V W)) G I) : kWP xs true (d) 0 0 164 0 [(0, 19, 0, 101)] [] G I Q := by
  refine b_M_isLikeOther_0 ?_
  refine loop_up (n := 121) (W := fun i => (∀ j, j < i → vx V j = vx W j) → kWP xs true (d) 0 0 164 2 [(0, 19, 0, 101), (1, 0, 0, (i : Int))] [] G I Q) ?_ ?_ (Nat.zero_le _) (fun i hi => absurd hi (Nat.not_lt_zero i))
  · intro hi
    refine b_M_isLikeOther_2 ⟨fun _ => ?_, fun h1 => by omega⟩
    rw [eqV_iff.mpr (fun k hk => by rw [← vx_at V hk, ← vx_at W hk]; exact hi _ (by omega))] at h
    exact h
  · intro i hi ih hl
    refine b_M_isLikeOther_2 ⟨fun h1 => by omega, fun _ => ⟨by omega, by omega, ?_⟩⟩
    rw [hV i hi, hW i hi, w32_inc (by omega)]
    refine ⟨fun h1 => ih (all_step hl h1), fun h1 => ?_⟩
    have : eqV V W = false := Bool.eq_false_iff.mpr (fun hh => h1 (by
      have hp := eqV_iff.mp hh
      unfold vx
      split
      · exact hp _ (by omega)
      · rfl))
    rw [this] at h
    exact h
theorem t_M_end0 {xs : KS} {d : Nat} {V : Nat → Int} {G : KG} {I : KI} {Q : KQ} (hV : MCf 113 V I) (hN : ∃ k, k < 43 ∧ V k ≠ 0) (h : Q (lsP V) G I) : kWP xs true (d) 0 0 167 0 [(0, 19, 0, 101), (1, 0, 0, 0), (2, 0, 0, 1)] [] G I Q := by
  obtain ⟨k, hk, hk0⟩ := hN
  have hl := fnd_lt (f := fun k => decide (V k ≠ 0)) hk (decide_eq_true hk0)
  unfold lsP at h
  rw [if_pos hl] at h
  have hs := of_decide_eq_true (fnd_spec hl)
  have hmin := fun j (hj : j < fnd (fun k => decide (V k ≠ 0)) 43) => fnd_min hj
  generalize fnd (fun k => decide (V k ≠ 0)) 43 = m at *
  refine b_M_end_0 ?_
  refine loop_up (n := 18 + 2 * m) (W := fun e => kWP xs true (d) 0 0 167 2 [(0, 19, 0, 101), (2, 0, 0, 1), (3, 0, 0, (e : Int))] [] G I Q) ?_ ?_ (Nat.zero_le _)
  · refine b_M_end_2 ⟨by omega, ?_⟩
    rw [hV _ (by omega), vx_at V hl, w32_id (by omega) (by omega), show ((18 + 2 * m : Nat) : Int) - 60 = 2 * (m : Int) - 42 by omega]
    exact ⟨fun _ => h, fun hh => absurd hh hs⟩
  · intro e he ih
    refine b_M_end_2 ⟨by omega, ?_⟩
    rw [hV _ (by omega), w32_inc (by omega)]
    have : vx V e = 0 := vx_0 (fun k hk hek => by
      have := hmin k (by omega)
      have := of_decide_eq_false this
      exact Decidable.not_not.mp this)
    exact ⟨fun hh => absurd this hh, fun _ => ih⟩
theorem t_M_end1 {xs : KS} {d : Nat} {V : Nat → Int} {G : KG} {I : KI} {Q : KQ} (hV : MCf 113 V I) (hN : ∃ k, k < 43 ∧ V k ≠ 0) (h : Q (gsP V) G I) : kWP xs true (d) 0 0 167 0 [(0, 19, 0, 101), (1, 0, 0, 120), (2, 0, 0, (-1))] [] G I Q := by
  obtain ⟨k, hk, hk0⟩ := hN
  have hl := fnd_lt (f := fun j => decide (V (42 - j) ≠ 0)) (n := 43) (k := 42 - k) (by omega) (decide_eq_true (by rw [show 42 - (42 - k) = k by omega]; exact hk0))
  unfold gsP at h
  rw [if_pos hl] at h
  have hs := of_decide_eq_true (fnd_spec hl)
  have hmin := fun j (hj : j < fnd (fun j => decide (V (42 - j) ≠ 0)) 43) => fnd_min hj
  generalize fnd (fun j => decide (V (42 - j) ≠ 0)) 43 = m at *
  refine b_M_end_0 ?_
  suffices key : ∀ (u e : Nat), e = 102 - 2 * m + u → e < 121 → kWP xs true (d) 0 0 167 2 [(0, 19, 0, 101), (2, 0, 0, (-1)), (3, 0, 0, (e : Int))] [] G I Q from key (120 - (102 - 2 * m)) 120 (by omega) (by omega)
  intro u
  induction u with
  | zero =>
    intro e he _
    refine b_M_end_2 ⟨by omega, ?_⟩
    have ev : vx V e = V (42 - m) := by rw [show e = 18 + 2 * (42 - m) by omega, vx_at V (by omega)]
    rw [hV _ (by omega), ev, w32_id (by omega) (by omega), show (e : Int) - 60 = 42 - 2 * (m : Int) by omega]
    exact ⟨fun _ => h, fun hh => absurd hh hs⟩
  | succ u ih =>
    intro e he h121
    refine b_M_end_2 ⟨by omega, ?_⟩
    rw [hV _ (by omega), w32_id (x := (e : Int) + (-1)) (by omega) (by omega), show (e : Int) + (-1) = ((e - 1 : Nat) : Int) by omega]
    have : vx V e = 0 := vx_0 (fun k hk hek => by
      have h1 := hmin (42 - k) (by omega)
      have h1 := of_decide_eq_false h1
      rw [show 42 - (42 - k) = k by omega] at h1
      exact Decidable.not_not.mp h1)
    exact ⟨fun hh => absurd this hh, fun _ => ih (e - 1) (by omega) (by omega)⟩
/-- what is owed of good pictures on the model's side -/
def OwedM (xs : KS) : Prop := ∀ P, PicOk P → LpOk P ∧ (∀ e : Nat, e < 121 → cof P (e : Int) = vx (pv xs P) e) ∧ ∃ k, k < 43 ∧ pv xs P k ≠ 0
theorem t_M_findSumV {xs : KS} {d : Nat} {P : Pic} {G : KG} {I : KI} {Q : KQ} (hM : OwedM xs) (hP : MHd P I) (hok : PicOk P) (h : ∀ I' : KI, MCf 113 (pv xs P) I' → kfr 113 115 I I' → Q 0 G I') : kWP xs true (d + 3) 0 0 161 0 [(0, 19, 0, 101)] [] G I Q :=
  t_M_findSum hP hok.pwh (hM P hok).1 (fun J hV hf => h J (fun e he => by rw [hV e he]; exact (hM P hok).2.1 e he) hf)
/-- the model's scratch -/
def mscr (I I' : KI) : Prop := ∀ a k, ¬ (a = 101 ∧ (k = 5 ∨ (20 ≤ k ∧ k ≤ 24) ∨ (27 ≤ k ∧ k ≤ 30) ∨ k = 35 ∨ k = 36 ∨ k = 41 ∨ k = 42)) → ¬ ((106 ≤ a ∧ a ≤ 115) ∨ (118 ≤ a ∧ a ≤ 120) ∨ a = 122 ∨ a = 128) → I' a k = I a k
theorem mscr.tr {I J K : KI} (h : mscr I J) (g : mscr J K) : mscr I K := fun a k h1 h2 => (g a k h1 h2).trans (h a k h1 h2)
theorem mscr.rf (I : KI) : mscr I I := fun _ _ _ _ => rfl
theorem hfr.ms {I J : KI} (h : hfr I J) : mscr I J := fun a k n1 n2 => h a k (by omega) (by omega)
theorem kfr.ms {lo hi : Int} {I J : KI} (h : kfr lo hi I J) (h1 : 106 ≤ lo) (h2 : hi ≤ 116) : mscr I J := fun a k n1 n2 => h a k (by omega)
theorem MPs.ms {ps : List Pic} {I J : KI} (h : MPs ps I) (hf : mscr I J) : MPs ps J := h.fr (fun a k hk => hf a k (by omega) (by omega))
theorem t_M_areAlike {xs : KS} {d i j : Nat} {ps : List Pic} {G : KG} {I : KI} {Q : KQ} (hM : OwedM xs) (hS : MPs ps I) (hi : i < ps.length) (hj : j < ps.length) (oi : PicOk (pget ps i)) (oj : PicOk (pget ps j))
    (h : ∀ I' : KI, mscr I I' → Q (bi (eqV (pv xs (pget ps j)) (pv xs (pget ps i)))) G I') : kWP xs true (d + 4) 0 0 165 0 [(0, 19, 0, 101), (1, 0, 0, (i : Int)), (2, 0, 0, (j : Int))] [] G I Q := by
  refine b_M_areAlike_0 (t_M_takesUp hS hi (fun J1 hP1 hf1 => t_M_findSumV hM hP1 oi (fun J2 hV2 hf2 => t_M_keepsSum hV2 (fun J3 hV3 hf3 => ?_))))
  have m3 := (hf1.ms.tr (hf2.ms (by omega) (by omega))).tr (hf3.ms (by omega) (by omega))
  refine t_M_takesUp (hS.ms m3) hj (fun J4 hP4 hf4 => t_M_findSumV hM hP4 oj (fun J5 hV5 hf5 => t_M_isLikeOther (W := pv xs (pget ps i)) hV5 (fun e he => ?_) (kzr_bi (h J5 ((m3.tr hf4.ms).tr (hf5.ms (by omega) (by omega)))))))
  rw [hf5 _ _ (by omega), hf4 _ _ (by omega) (by omega)]
  exact hV3 e he
theorem eqV_sym (V W : Nat → Int) : eqV V W = eqV W V := by
  cases h : eqV V W with
  | true => exact (eqV_iff.mpr (fun k hk => (eqV_iff.mp h k hk).symm)).symm
  | false =>
    cases h2 : eqV W V with
    | false => rfl
    | true => rw [eqV_iff.mpr (fun k hk => (eqV_iff.mp h2 k hk).symm)] at h; cases h
theorem t_M_whichOf {xs : KS} {d p : Nat} {ps : List Pic} {G : KG} {I : KI} {Q : KQ} (hM : OwedM xs) (hS : MPs ps I) (hp : p < ps.length) (hok : ∀ i, i < ps.length → PicOk (pget ps i))
    (h : ∀ I' : KI, mscr I I' → Q (whc xs ps p) G I') : kWP xs true (d + 5) 0 0 166 0 [(0, 19, 0, 101), (1, 0, 0, (p : Int))] [] G I Q := by
  have h12 := hS.2.1
  unfold whc at h
  simp only at h
  refine b_M_whichOf_0 ?_
  refine loop_up (n := p) (W := fun i => ∀ J : KI, (∀ j, j < i → eqV (pv xs (pget ps j)) (pv xs (pget ps p)) = false) → mscr I J → kWP xs true (d + 5) 0 0 166 2 [(0, 19, 0, 101), (1, 0, 0, (p : Int)), (2, 0, 0, (i : Int))] [] G J Q) ?_ ?_ (Nat.zero_le _) I (fun j hj => absurd hj (Nat.not_lt_zero j)) (mscr.rf I)
  · intro J hl hf
    have h := h J hf
    rw [fnd_none hl, if_neg (by omega)] at h
    exact b_M_whichOf_2 ⟨fun _ => h, fun hh => by omega⟩
  · intro i hi ih J hl hf
    refine b_M_whichOf_2 ⟨fun hh => by omega, fun _ => t_M_areAlike hM (hS.ms hf) hp (by omega) (hok p hp) (hok i (by omega)) (fun J1 hf1 => ?_)⟩
    cases hb : eqV (pv xs (pget ps i)) (pv xs (pget ps p)) with
    | false =>
      refine ⟨fun _ => ?_, fun hh => absurd rfl hh⟩
      rw [w32_inc (by omega)]
      exact ih J1 (all_step (p := fun j => eqV (pv xs (pget ps j)) (pv xs (pget ps p)) = false) hl hb) (hf.tr hf1)
    | true =>
      refine ⟨fun hh => absurd hh (by decide), fun _ => ?_⟩
      have h := h J1 (hf.tr hf1)
      rw [fnd_eq (f := fun i => eqV (pv xs (pget ps i)) (pv xs (pget ps p))) hi hb hl, if_pos hi] at h
      exact h
/-- a shelf in the model's cells -/
def MShf (i : Nat) : Shf → KI → Prop
  | none, I => I 125 (i : Int) = -1
  | some (.inl b), I => I 125 (i : Int) = (b : Int) ∧ b < 50
  | some (.inr (s, l)), I => I 125 (i : Int) = 50 + (s : Int) ∧ I 126 (i : Int) = (l.length : Int) ∧ l.length ≤ 60 ∧ ∀ k : Nat, k < l.length → I 127 ((60 * i + k : Nat) : Int) = l.getD k 0
def MShs (sh : List Shf) (I : KI) : Prop := sh.length = 6 ∧ ∀ i : Nat, i < 6 → MShf i (sh.getD i none) I
def MTp (T : List Int) (I : KI) : Prop := I 101 17 = (T.length : Int) ∧ T.length ≤ 120 ∧ ∀ k : Nat, k < T.length → I 116 (k : Int) = T.getD k 0
def MTx (w : List Int) (I : KI) : Prop := I 101 19 = (if w.length = 0 then -1 else (w.length : Int)) ∧ w.length ≤ 120 ∧ ∀ k : Nat, k < w.length → I 117 (k : Int) = w.getD k 0
def MCh (L : List Int) (u : Nat) (I : KI) : Prop := I 101 33 = (u : Int) ∧ I 101 32 = (L.length : Int) ∧ u ≤ L.length ∧ L.length ≤ 40 ∧ ∀ k : Nat, k < L.length → I 121 (k : Int) = L.getD k 0
def MLi (K tr : List Int) (I : KI) : Prop := I 101 37 = (K.length : Int) ∧ K.length ≤ 50 ∧ (∀ k : Nat, k < K.length → I 123 (k : Int) = K.getD k 0) ∧ I 101 40 = (tr.length : Int) ∧ ∀ k : Nat, k < tr.length → k < 24 → I 124 (k : Int) = tr.getD k 0
/-- the model's cells hold a state -/
def RRep (S : St) (I : KI) : Prop := MPs S.1 I ∧ MTp S.2.1 I ∧ MTx S.2.2.1 I ∧ MCh S.2.2.2.1.1 S.2.2.2.1.2 I ∧ MLi S.2.2.2.2.1.1 S.2.2.2.2.1.2 I ∧ MShs S.2.2.2.2.2 I
def lof (I I' : KI) : Prop := ∀ a k, a ≤ 100 → I' a k = I a k
theorem lof.rf (I : KI) : lof I I := fun _ _ _ => rfl
def MOk (xs : KS) (j : Nat) (args : KL) (op : Op) : Prop := ∀ (d : Nat) (S : St) (G : KG) (I : KI) (Q : KQ), RRep S I → Inv S → (∀ (G' : KG) (I' : KI), RRep (op S).2 I' → lof I I' → Q (op S).1 G' I') → kWP xs true (d + 80) 0 0 j 0 args [] G I Q
theorem MTp.fr {T : List Int} {I J : KI} (h : MTp T I) (hf : ∀ a k, (a = 101 ∧ k = 17) ∨ a = 116 → J a k = I a k) : MTp T J := ⟨by rw [hf _ _ (by omega)]; exact h.1, h.2.1, fun k hk => by rw [hf _ _ (by omega)]; exact h.2.2 k hk⟩
theorem MTx.fr {T : List Int} {I J : KI} (h : MTx T I) (hf : ∀ a k, (a = 101 ∧ k = 19) ∨ a = 117 → J a k = I a k) : MTx T J := ⟨by rw [hf _ _ (by omega)]; exact h.1, h.2.1, fun k hk => by rw [hf _ _ (by omega)]; exact h.2.2 k hk⟩
theorem MCh.fr {L : List Int} {u : Nat} {I J : KI} (h : MCh L u I) (hf : ∀ a k, (a = 101 ∧ (k = 32 ∨ k = 33)) ∨ a = 121 → J a k = I a k) : MCh L u J := ⟨by rw [hf _ _ (by omega)]; exact h.1, by rw [hf _ _ (by omega)]; exact h.2.1, h.2.2.1, h.2.2.2.1, fun k hk => by rw [hf _ _ (by omega)]; exact h.2.2.2.2 k hk⟩
theorem MLi.fr {K tr : List Int} {I J : KI} (h : MLi K tr I) (hf : ∀ a k, (a = 101 ∧ (k = 37 ∨ k = 40)) ∨ a = 123 ∨ a = 124 → J a k = I a k) : MLi K tr J := ⟨by rw [hf _ _ (by omega)]; exact h.1, h.2.1, fun k hk => by rw [hf _ _ (by omega)]; exact h.2.2.1 k hk, by rw [hf _ _ (by omega)]; exact h.2.2.2.1, fun k hk h2 => by rw [hf _ _ (by omega)]; exact h.2.2.2.2 k hk h2⟩
theorem MShf.fr {i : Nat} {S : Shf} {I J : KI} (h : MShf i S I) (hf : ∀ a k, 125 ≤ a → a ≤ 127 → J a k = I a k) : MShf i S J := by
  match S, h with
  | none, h => exact (hf _ _ (by omega) (by omega)).trans h
  | some (.inl b), h => exact ⟨(hf _ _ (by omega) (by omega)).trans h.1, h.2⟩
  | some (.inr (s, l)), h => exact ⟨(hf _ _ (by omega) (by omega)).trans h.1, (hf _ _ (by omega) (by omega)).trans h.2.1, h.2.2.1, fun k hk => (hf _ _ (by omega) (by omega)).trans (h.2.2.2 k hk)⟩
theorem MShs.fr {sh : List Shf} {I J : KI} (h : MShs sh I) (hf : ∀ a k, 125 ≤ a → a ≤ 127 → J a k = I a k) : MShs sh J := ⟨h.1, fun i hi => (h.2 i hi).fr hf⟩
theorem RRep.ms {S : St} {I J : KI} (h : RRep S I) (hf : mscr I J) : RRep S J := by
  obtain ⟨h1, h2, h3, h4, h5, h6⟩ := h
  exact ⟨h1.ms hf, h2.fr (fun a k hk => hf _ _ (by omega) (by omega)), h3.fr (fun a k hk => hf _ _ (by omega) (by omega)), h4.fr (fun a k hk => hf _ _ (by omega) (by omega)), h5.fr (fun a k hk => hf _ _ (by omega) (by omega)), h6.fr (fun a k _ _ => hf _ _ (by omega) (by omega))⟩
theorem mscr.lo {I J : KI} (h : mscr I J) : lof I J := fun a k hk => h a k (by omega) (by omega)
theorem RRep.pics {S : St} {ps : List Pic} {I J : KI} (h : RRep S I) (hf : ∀ a k, ¬ (a = 101 ∧ (k = 0 ∨ k = 5 ∨ (20 ≤ k ∧ k ≤ 24) ∨ (27 ≤ k ∧ k ≤ 30) ∨ k = 35 ∨ k = 36 ∨ k = 41 ∨ k = 42)) → ¬ ((102 ≤ a ∧ a ≤ 115) ∨ (118 ≤ a ∧ a ≤ 120) ∨ a = 122 ∨ a = 128) → J a k = I a k) (hp : MPs ps J) : RRep (ps, S.2) J := by
  obtain ⟨_, h2, h3, h4, h5, h6⟩ := h
  exact ⟨hp, h2.fr (fun a k hk => hf _ _ (by omega) (by omega)), h3.fr (fun a k hk => hf _ _ (by omega) (by omega)), h4.fr (fun a k hk => hf _ _ (by omega) (by omega)), h5.fr (fun a k hk => hf _ _ (by omega) (by omega)), h6.fr (fun a k _ _ => hf _ _ (by omega) (by omega))⟩
