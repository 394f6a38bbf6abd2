/-! THE LAW'S TEXT: names -/
/-- value, place, wrong -/
abbrev LR : Type := Int × Nat × Bool
def lnd (f : Nat → Int) (n : Nat) (e : Int → Int) (pl : Nat) (w : Bool) : LR :=
  if lsg f n pl = 110 then (e 6, pl + 1, w) else if lsg f n pl = 98 then (e 7, pl + 1, w) else if lsg f n pl = 115 then (e 8, pl + 1, w) else if lsg f n pl = 122 then (e 9, pl + 1, w) else if lsg f n pl = 109 then (e 10, pl + 1, w) else (0, pl, true)
theorem CLw.bad {f : Nat → Int} {n pl : Nat} {w : Bool} {G : KG} {I J : KI} (hC : CLw f n pl w G I) (e : J = kst I 21 5 1) : CLw f n pl true G J ∧ lfr I J := by
  obtain ⟨c1, c2, c3, c4, c5, c6, c7⟩ := hC
  refine ⟨⟨c1, by rw [e, kst_k (by omega)]; exact c2, by rw [e, kst_k (by omega)]; exact c3, c4, by rw [e, kst_s]; rfl, fun k hk => ?_, c7⟩, fun a k hk => ?_⟩
  · rw [e, kst_a c7]; exact c6 k hk
  · rw [e, kst_n (by omega)]
theorem t_Law_named {xs : KS} {d : Nat} {f : Nat → Int} {n pl : Nat} {w : Bool} {e : Int → Int} {G : KG} {I : KI} {Q : KQ} (hC : CLw f n pl w G I) (he : ∀ k : Int, 6 ≤ k → k ≤ 10 → I 21 k = e k)
    (h : ∀ I' : KI, CLw f n (lnd f n e pl w).2.1 (lnd f n e pl w).2.2 G I' → lfr I I' → Q (lnd f n e pl w).1 G I') : kWP xs true (d + 2) 0 0 20 0 [(0, 11, 0, 21)] [] G I Q := by
  have ok : ∀ (k : Int) (J : KI), 6 ≤ k → k ≤ 10 → lnd f n e pl w = (e k, pl + 1, w) → CLw f n (pl + 1) w G J → lfr I J → Q (J 21 k) G J := fun k J k1 k2 hl hJ hf => by
    rw [hf 21 k (by omega), he k k1 k2]
    rw [hl] at h
    exact h J hJ hf
  refine b_Law_named_0 (t_Law_comes (by decide) hC (fun n1 => ⟨fun _ => ?_, fun hh => absurd rfl hh⟩) (fun J y1 hJ hf => ⟨fun hh => absurd hh (by decide), fun _ => ok 6 J (by decide) (by decide) (by unfold lnd; rw [if_pos y1]) hJ hf⟩))
  refine t_Law_comes (by decide) hC (fun n2 => ⟨fun _ => ?_, fun hh => absurd rfl hh⟩) (fun J y1 hJ hf => ⟨fun hh => absurd hh (by decide), fun _ => ok 7 J (by decide) (by decide) (by unfold lnd; rw [if_neg n1, if_pos y1]) hJ hf⟩)
  refine t_Law_comes (by decide) hC (fun n3 => ⟨fun _ => ?_, fun hh => absurd rfl hh⟩) (fun J y1 hJ hf => ⟨fun hh => absurd hh (by decide), fun _ => ok 8 J (by decide) (by decide) (by unfold lnd; rw [if_neg n1, if_neg n2, if_pos y1]) hJ hf⟩)
  refine t_Law_comes (by decide) hC (fun n4 => ⟨fun _ => ?_, fun hh => absurd rfl hh⟩) (fun J y1 hJ hf => ⟨fun hh => absurd hh (by decide), fun _ => ok 9 J (by decide) (by decide) (by unfold lnd; rw [if_neg n1, if_neg n2, if_neg n3, if_pos y1]) hJ hf⟩)
  refine t_Law_comes (by decide) hC (fun n5 => ⟨fun _ J e1 => ?_, fun hh => absurd rfl hh⟩) (fun J y1 hJ hf => ⟨fun hh => absurd hh (by decide), fun _ => ok 10 J (by decide) (by decide) (by unfold lnd; rw [if_neg n1, if_neg n2, if_neg n3, if_neg n4, if_pos y1]) hJ hf⟩)
  have hb := hC.bad e1
  have hl : lnd f n e pl w = (0, pl, true) := by unfold lnd; rw [if_neg n1, if_neg n2, if_neg n3, if_neg n4, if_neg n5]
  rw [hl] at h
  exact h J hb.1 hb.2
def ldv (a b : Int) : Int := if b = 0 then 0 else kidiv a b
def llf (a b : Int) : Int := if b = 0 then 0 else kirem a b
theorem t_Law_divided {xs : KS} {d : Nat} {a b : Int} {G : KG} {I : KI} {Q : KQ} (h : Q (ldv a b) G I) : kWP xs true (d) 0 0 17 0 [(0, 0, 0, a), (1, 0, 0, b)] [] G I Q := by
  unfold ldv at h
  exact b_Law_divided_0 ⟨fun h1 => ⟨h1, by rw [if_neg h1] at h; exact h⟩, fun h1 => by rw [if_pos h1] at h; exact h⟩
theorem t_Law_left {xs : KS} {d : Nat} {a b : Int} {G : KG} {I : KI} {Q : KQ} (h : Q (llf a b) G I) : kWP xs true (d) 0 0 18 0 [(0, 0, 0, a), (1, 0, 0, b)] [] G I Q := by
  unfold llf at h
  exact b_Law_left_0 ⟨fun h1 => ⟨h1, by rw [if_neg h1] at h; exact h⟩, fun h1 => by rw [if_pos h1] at h; exact h⟩
