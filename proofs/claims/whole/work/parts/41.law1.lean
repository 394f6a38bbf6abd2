/-! THE LAW'S TEXT: signs -/
/-- only the reader's place and whether it is wrong may change -/
def lfr (I I' : KI) : Prop := ∀ a k, ¬ (a = 21 ∧ (k = 4 ∨ k = 5)) → I' a k = I a k
theorem lfr.rf (I : KI) : lfr I I := fun _ _ _ => rfl
theorem lfr.tr {I J K : KI} (h : lfr I J) (g : lfr J K) : lfr I K := fun a k hk => (g a k hk).trans (h a k hk)
/-- the reader of a text f of n signs, at a place -/
def CLw (f : Nat → Int) (n pl : Nat) (w : Bool) (G : KG) (I : KI) : Prop := n ≤ 120 ∧ I 21 3 = (n : Int) ∧ I 21 4 = (pl : Int) ∧ pl ≤ n ∧ I 21 5 = bi w ∧ (∀ k : Nat, k < n → I (G.2.2 21 2) (k : Int) = f k) ∧ G.2.2 21 2 ≠ 21
def lsg (f : Nat → Int) (n pl : Nat) : Int := if pl < n then f pl else -1
theorem t_Law_next {xs : KS} {d : Nat} {f : Nat → Int} {n pl : Nat} {w : Bool} {G : KG} {I : KI} {Q : KQ} (hC : CLw f n pl w G I) (h : Q (lsg f n pl) G I) : kWP xs true (d) 0 0 10 0 [(0, 11, 0, 21)] [] G I Q := by
  obtain ⟨c1, c2, c3, c4, c5, c6, c7⟩ := hC
  unfold lsg at h
  refine b_Law_next_0 ?_
  rw [c2, c3]
  refine ⟨fun h1 => ?_, fun h1 => ⟨fun h2 => by omega, fun h2 => ⟨by omega, ?_⟩⟩⟩
  · rw [if_neg (by omega)] at h; exact h
  · rw [if_pos (by omega)] at h
    rw [c6 pl (by omega)]; exact h
theorem t_Law_comes {xs : KS} {d : Nat} {f : Nat → Int} {n pl : Nat} {w : Bool} {c : Int} {G : KG} {I : KI} {Q : KQ} (hc : 0 ≤ c) (hC : CLw f n pl w G I) (h0 : lsg f n pl ≠ c → Q 0 G I) (h1 : ∀ I' : KI, lsg f n pl = c → CLw f n (pl + 1) w G I' → lfr I I' → Q 1 G I') : kWP xs true (d + 1) 0 0 11 0 [(0, 11, 0, 21), (1, 0, 0, c)] [] G I Q := by
  refine b_Law_comes_0 (t_Law_next hC ⟨fun h2 J1 e1 => ?_, fun h2 => h0 h2⟩)
  obtain ⟨c1, c2, c3, c4, c5, c6, c7⟩ := hC
  have hl : pl < n := by
    unfold lsg at h2
    rcases Nat.lt_or_ge pl n with hl | hl
    · exact hl
    · rw [if_neg (by omega)] at h2; omega
  refine h1 J1 h2 ⟨c1, by rw [e1, kst_k (by omega)]; exact c2, by rw [e1, kst_s, c3, w32_id (by omega) (by omega)]; omega, by omega, by rw [e1, kst_k (by omega)]; exact c5, fun k hk => ?_, c7⟩ (fun a k hk => ?_)
  · rw [e1, kst_a (by omega)]; exact c6 k hk
  · rw [e1, kst_n (by omega)]
