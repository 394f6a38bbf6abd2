/-! THE LAW'S TEXT: its fault, its letters, kept -/
/-- the law kept: length and signs -/
def CTxt (f : Nat → Int) (n : Nat) (I : KI) : Prop := I 21 1 = (n : Int) ∧ n ≤ 120 ∧ ∀ k : Nat, k < n → I 22 (k : Int) = f k
def lrd (I I' : KI) : Prop := ∀ a k, ¬ (a = 21 ∧ (k = 3 ∨ k = 4 ∨ k = 5)) → I' a k = I a k
theorem kGr_s {G : KG} {v : Int} : (kGr G 21 2 v).2.2 21 2 = v := by unfold kGr kst; simp
theorem kst_lrd {I J : KI} {v : Int} (e : J = kst I 21 3 v) : lrd I J := fun a k hk => by rw [e, kst_n (by omega)]
theorem t_Law_fault {xs : KS} {d : Nat} {f : Nat → Int} {n : Nat} {r : Int} {e : Int → Int} {G : KG} {I : KI} {Q : KQ} (hn : n ≤ 120) (hf : ∀ k : Nat, k < n → I r (k : Int) = f k) (hr : r ≠ 21) (he : ∀ k : Int, 6 ≤ k → k ≤ 10 → I 21 k = e k)
    (h : ∀ I' : KI, lrd I I' → Q (if (wor f n e).2.2 = true then ((wor f n e).2.1 : Int) else -1) (kGr G 21 2 r) I') : kWP xs true (d + 52) 0 0 6 0 [(0, 11, 0, 21), (1, 6, 120, r), (2, 0, 0, (n : Int))] [] G I Q := by
  refine b_Law_fault_0 (fun J1 e1 => t_Law_worth (f := f) (e := e) hn (by rw [e1, kst_s]) (fun k hk => ?_) (by rw [kGr_s]; exact hr) (fun k h6 h10 => ?_) (fun J2 hJ2 hf2 => ?_))
  · rw [kGr_s, e1, kst_a hr]; exact hf k hk
  · rw [e1, kst_k (by omega)]; exact he k h6 h10
  · have g : lrd I J2 := fun a k hk => by rw [hf2 a k (by omega), kst_lrd e1 a k hk]
    have h := h J2 g
    have h5 : J2 21 5 = bi (wor f n e).2.2 := hJ2.2.2.2.2.1
    have h4 : J2 21 4 = ((wor f n e).2.1 : Int) := hJ2.2.2.1
    rw [h5, h4]
    refine ⟨fun hw => ?_, fun hw => ?_⟩
    · rw [if_neg (by rw [bi0 hw]; simp)] at h; exact h
    · rw [if_pos (bi1 hw)] at h; exact h
def clp (v : Int) : Int := if 0 < (if v < 6 then v else 6) then (if v < 6 then v else 6) else 0
theorem t_Law_letters {xs : KS} {d : Nat} {f : Nat → Int} {n : Nat} {e : Int → Int} {G : KG} {I : KI} {Q : KQ} (hT : CTxt f n I) (he : ∀ k : Int, 6 ≤ k → k ≤ 10 → I 21 k = e k)
    (h0 : n = 0 → Q 0 G I) (h : n ≠ 0 → ∀ I' : KI, lrd I I' → Q (clp (wor f n e).1) (kGr G 21 2 22) I') : kWP xs true (d + 52) 0 0 8 0 [(0, 11, 0, 21)] [] G I Q := by
  obtain ⟨h1, hn, hf⟩ := hT
  refine b_Law_letters_0 ?_
  rw [h1]
  refine ⟨fun hn0 J1 e1 => t_Law_worth (f := f) (e := e) hn (by rw [e1, kst_s]) (fun k hk => ?_) (by rw [kGr_s]; omega) (fun k h6 h10 => ?_) (fun J2 hJ2 hf2 => ?_), fun hn0 => h0 (by omega)⟩
  · rw [kGr_s, e1, kst_a (by omega)]; exact hf k hk
  · rw [e1, kst_k (by omega)]; exact he k h6 h10
  · exact h (by omega) J2 (fun a k hk => by rw [hf2 a k (by omega), kst_lrd e1 a k hk])
theorem t_Law_become {xs : KS} {d : Nat} {f : Nat → Int} {n : Nat} {r : Int} {G : KG} {I : KI} {Q : KQ} (hn : n ≤ 120) (hf : ∀ k : Nat, k < n → I r (k : Int) = f k) (hr : r ≠ 21)
    (h : ∀ I' : KI, CTxt f n I' → (∀ a k, a ≠ 22 → ¬ (a = 21 ∧ k = 1) → I' a k = I a k) → Q 0 G I') : kWP xs true (d) 0 0 7 0 [(0, 11, 0, 21), (1, 6, 120, r), (2, 0, 0, (n : Int))] [] G I Q := by
  refine b_Law_become_0 (fun J1 e1 => ?_)
  rw [if_neg (by omega)] at e1
  have g1 : J1 21 1 = (n : Int) := by rw [e1, kst_s]
  rw [g1]
  refine ⟨by omega, fun J2 e2 => h J2 ⟨?_, hn, fun k hk => ?_⟩ (fun a k h1 h2 => ?_)⟩
  · rw [e2]; unfold kcpy; rw [if_neg (by omega), g1]
  · rw [e2]; unfold kcpy; rw [if_pos (by omega), show (0 : Int) + ((k : Int) - 0) = (k : Int) by omega, e1, kst_a hr]; exact hf k hk
  · rw [e2]; unfold kcpy; rw [if_neg (by omega), e1, kst_n (by omega)]
