/-! THE LAW'S TEXT: lines -/
def wend (f : Nat → Int) (n : Nat) (R : Int → Bool → Nat → LR) (a : Int) (c : Bool) (q : Nat × Bool) : LR := if q.2 = true ∨ n ≤ q.1 then (a, q) else if lsg f n q.1 = 59 then R a c (q.1 + 1) else (a, q.1, true)
def wln (f : Nat → Int) (n : Nat) (R : Int → Bool → Nat → LR) (a : Int) (c asks : Bool) (first : Int) (q : LR) : LR := if c = true then wend f n R a true q.2 else if asks = false ∨ first ≠ 0 then wend f n R q.1 true q.2 else wend f n R a false q.2
def wthL (f : Nat → Int) (n : Nat) (E : LSg) : Nat → Int → Bool → Nat → LR
  | 0, a, _, pl => (a, pl, false)
  | k + 1, a, c, pl =>
    let r := E pl false
    if r.2.2 = true then wln f n (wthL f n E k) a c false r.1 r
    else if lsg f n r.2.1 = 63 then wln f n (wthL f n E k) a c true r.1 (E (r.2.1 + 1) false)
    else wln f n (wthL f n E k) a c false r.1 r
def wor (f : Nat → Int) (n : Nat) (e : Int → Int) : LR := wthL f n (lE f n e) 120 0 false 0
theorem bi_t : bi true = 1 := rfl
theorem bi_f : bi false = 0 := rfl
theorem t_Law_worth {xs : KS} {d : Nat} {f : Nat → Int} {n : Nat} {e : Int → Int} {G : KG} {I : KI} {Q : KQ} (hn : n ≤ 120) (h3 : I 21 3 = (n : Int)) (hf : ∀ k : Nat, k < n → I (G.2.2 21 2) (k : Int) = f k) (hG : G.2.2 21 2 ≠ 21) (he : ∀ k : Int, 6 ≤ k → k ≤ 10 → I 21 k = e k)
    (h : ∀ I' : KI, CLw f n (wor f n e).2.1 (wor f n e).2.2 G I' → lfr I I' → Q (wor f n e).1 G I') : kWP xs true (d + 51) 0 0 9 0 [(0, 11, 0, 21)] [] G I Q := by
  refine b_Law_worth_0 (fun J1 e1 J2 e2 => ?_)
  have hJ2 : CLw f n 0 false G J2 := ⟨hn, by rw [e2, kst_k (by omega), e1, kst_k (by omega)]; exact h3, by rw [e2, kst_k (by omega), e1, kst_s]; rfl, Nat.zero_le _, by rw [e2, kst_s]; rfl, fun k hk => by rw [e2, kst_a hG, e1, kst_a hG]; exact hf k hk, hG⟩
  have hf2 : lfr I J2 := fun a k hk => by rw [e2, kst_n (by omega), e1, kst_n (by omega)]
  unfold wor at h
  suffices key : ∀ (k i : Nat) (a : Int) (c : Bool) (pl : Nat) (J : KI), i + k = 120 → wthL f n (lE f n e) k a c pl = wthL f n (lE f n e) 120 0 false 0 → CLw f n pl false G J → lfr I J → kWP xs true (d + 51) 0 0 9 16 [(0, 11, 0, 21), (1, 0, 0, a), (2, 0, 0, bi c), (3, 0, 0, (i : Int))] [] G J Q from key 120 0 0 false 0 J2 rfl rfl hJ2 hf2
  intro k
  induction k with
  | zero =>
    intro i a c pl J hi hl hJ hfr
    rw [← hl] at h
    exact b_Law_worth_16 ⟨fun _ => h J hJ hfr, fun h1 => by omega⟩
  | succ k ih =>
    intro i a c pl J hi hl hJ hfr
    -- behind a line
    have tl : ∀ (a' : Int) (c' : Bool) (q : Nat × Bool) (J : KI), wend f n (wthL f n (lE f n e) k) a' c' q = wthL f n (lE f n e) 120 0 false 0 → CLw f n q.1 q.2 G J → lfr I J →
        (J 21 5 ≠ 0 → Q a' G J) ∧ (J 21 5 = 0 → (J 21 4 < J 21 3 → kWP xs true (d + 50) 0 0 11 0 [(0, 11, 0, 21), (1, 0, 0, 59)] [] G J (fun r1 G1 I1 => (r1 ≠ 0 → kWP xs true (d + 51) 0 0 9 16 [(0, 11, 0, 21), (1, 0, 0, a'), (2, 0, 0, bi c'), (3, 0, 0, w32 ((i : Int) + 1))] [] G1 I1 Q) ∧ (r1 = 0 → ∀ J1 : KI, J1 = kst I1 21 5 1 → kWP xs true (d + 51) 0 0 9 16 [(0, 11, 0, 21), (1, 0, 0, a'), (2, 0, 0, bi c'), (3, 0, 0, w32 ((i : Int) + 1))] [] G1 J1 Q))) ∧ (J 21 3 ≤ J 21 4 → Q a' G J)) := by
      intro a' c' q J hl hJ hfr
      have h5 : J 21 5 = bi q.2 := hJ.2.2.2.2.1
      have h4 : J 21 4 = (q.1 : Int) := hJ.2.2.1
      have h3 : J 21 3 = (n : Int) := hJ.2.1
      rw [h5, h4, h3, w32_id (x := (i : Int) + 1) (by omega) (by omega)]
      unfold wend at hl
      refine ⟨fun h1 => ?_, fun h1 => ⟨fun h2 => ?_, fun h2 => ?_⟩⟩
      · rw [if_pos (Or.inl (bi1 h1))] at hl
        rw [← hl] at h
        exact h J hJ hfr
      · have hw := bi0 h1
        rw [if_neg (by rw [hw]; simp; omega)] at hl
        rw [hw] at hJ
        refine t_Law_comes (by decide) hJ (fun n1 => ⟨fun hh => absurd rfl hh, fun _ J1 e1 => ?_⟩) (fun J1 y hJ1 hf1 => ⟨fun _ => ?_, fun hh => absurd hh (by decide)⟩)
        · rw [if_neg n1] at hl
          have hb := hJ.bad e1
          rw [← hl] at h
          have h := h J1 hb.1 (hfr.tr hb.2)
          exact b_Law_worth_16 ⟨fun _ => h, fun _ => ⟨fun _ => h, fun h6 => by rw [e1, kst_s] at h6; omega⟩⟩
        · rw [if_pos y] at hl
          exact ih (i + 1) a' c' (q.1 + 1) J1 (by omega) hl hJ1 (hfr.tr hf1)
      · rw [if_pos (Or.inr (by omega))] at hl
        rw [← hl] at h
        exact h J hJ hfr
    have ct : ∀ (asks : Bool) (first : Int) (q : LR) (J : KI), wln f n (wthL f n (lE f n e) k) a c asks first q = wthL f n (lE f n e) 120 0 false 0 → CLw f n q.2.1 q.2.2 G J → lfr I J → kWP xs true (d + 51) 0 0 9 74 [(0, 11, 0, 21), (1, 0, 0, a), (2, 0, 0, bi c), (3, 0, 0, (i : Int)), (4, 0, 0, first), (5, 0, 0, bi asks)] [(0, 0, q.1)] G J Q := by
      intro asks first q J hl hJ hfr
      unfold wln at hl
      refine b_Law_worth_74 ⟨fun h1 => ?_, fun h1 => ⟨fun h2 => ?_, fun h2 => ⟨fun h3 => ?_, fun h3 => ?_⟩⟩⟩
      · have hc := bi1 h1
        rw [if_pos hc] at hl
        rw [hc]
        exact tl a true q.2 J hl hJ hfr
      · have hc := bi0 h1
        rw [if_neg (by rw [hc]; simp), if_pos (Or.inl (bi0 h2))] at hl
        exact tl q.1 true q.2 J hl hJ hfr
      · have hc := bi0 h1
        rw [if_neg (by rw [hc]; simp), if_neg (by rw [bi1 h2, h3]; simp)] at hl
        rw [hc]
        exact tl a false q.2 J hl hJ hfr
      · have hc := bi0 h1
        rw [if_neg (by rw [hc]; simp), if_pos (Or.inr h3)] at hl
        exact tl q.1 true q.2 J hl hJ hfr
    have h5 : J 21 5 = 0 := hJ.2.2.2.2.1
    unfold wthL at hl
    simp only at hl
    refine b_Law_worth_16 ⟨fun h1 => by omega, fun _ => ⟨fun h1 => absurd h5 h1, fun _ => lvl_E d pl false G J _ hJ (hfr.he he) (fun J3 hJ3 hf3 => ?_)⟩⟩
    have h35 : J3 21 5 = bi (lE f n e pl false).2.2 := hJ3.2.2.2.2.1
    have hfr3 := hfr.tr hf3
    refine ⟨fun h1 => ?_, fun h1 => ?_⟩
    · rw [h35] at h1
      rw [if_pos (bi1 h1)] at hl
      exact b_Law_worth_56 (b_Law_worth_57 ⟨fun _ => ct false _ _ J3 hl hJ3 hfr3, fun hh => absurd rfl hh⟩)
    · rw [h35] at h1
      have hw := bi0 h1
      rw [if_neg (by rw [hw]; simp)] at hl
      have hJ3w := hJ3
      rw [hw] at hJ3w
      refine t_Law_comes (by decide) hJ3w (fun n1 => ⟨fun _ => ?_, fun hh => absurd rfl hh⟩) (fun J4 y hJ4 hf4 => ⟨fun hh => absurd hh (by decide), fun _ => ?_⟩)
      · rw [if_neg n1] at hl
        exact b_Law_worth_56 (b_Law_worth_57 ⟨fun _ => ct false _ _ J3 hl hJ3 hfr3, fun hh => absurd rfl hh⟩)
      · rw [if_pos y] at hl
        refine b_Law_worth_57 ⟨fun hh => absurd hh (by decide), fun _ => lvl_E d _ false G J4 _ hJ4 ((hfr3.tr hf4).he he) (fun J5 hJ5 hf5 => ct true _ _ J5 hl hJ5 ((hfr3.tr hf4).tr hf5))⟩
