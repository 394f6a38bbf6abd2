/-! THE LAW'S TEXT: singles -/
def lsn (f : Nat → Int) (n : Nat) (e : Int → Int) (O : LSg) : LSg := fun pl w =>
  if 48 ≤ lsg f n pl ∧ lsg f n pl ≤ 57 then ((lnm f n 4 0 pl).1, (lnm f n 4 0 pl).2, w)
  else if lsg f n pl = 40 ∨ lsg f n pl = 33 ∨ lsg f n pl = 45 then O pl w
  else lnd f n e pl w
theorem lvl_single {xs : KS} {d : Nat} {f : Nat → Int} {n : Nat} {e : Int → Int} {o : Int} {O : LSg} (hO : LvlOk 21 xs (d + 2) f n e o O) : LvlOk 19 xs (d + 3) f n e o (lsn f n e O) := by
  intro pl w G I Q hC he h
  have num : 48 ≤ lsg f n pl → lsg f n pl ≤ 57 → kWP xs true (d + 2) 0 0 22 0 [(0, 11, 0, 21)] [] G I Q := fun a b => by
    have e1 : lsn f n e O pl w = ((lnm f n 4 0 pl).1, (lnm f n 4 0 pl).2, w) := by unfold lsn; rw [if_pos ⟨a, b⟩]
    rw [e1] at h
    exact t_Law_number hC h
  have opn : lsg f n pl = 40 ∨ lsg f n pl = 33 ∨ lsg f n pl = 45 → kWP xs true (d + 2) 0 0 21 0 [(0, 11, 0, 21), (1, 0, 0, o)] [] G I Q := fun a => by
    have e1 : lsn f n e O pl w = O pl w := by unfold lsn; rw [if_neg (by omega), if_pos a]
    rw [e1] at h
    exact hO pl w G I Q hC he h
  have nam : ¬ (48 ≤ lsg f n pl ∧ lsg f n pl ≤ 57) → ¬ (lsg f n pl = 40 ∨ lsg f n pl = 33 ∨ lsg f n pl = 45) → kWP xs true (d + 2) 0 0 20 0 [(0, 11, 0, 21)] [] G I Q := fun a b => by
    have e1 : lsn f n e O pl w = lnd f n e pl w := by unfold lsn; rw [if_neg a, if_neg b]
    rw [e1] at h
    exact t_Law_named hC he h
  refine b_Law_single_0 (t_Law_next hC ⟨fun h1 => ⟨fun h2 => opn (Or.inl h2), fun h2 => ⟨fun h3 => opn (Or.inr (Or.inl h3)), fun h3 => ⟨fun h4 => nam (by omega) (by omega), fun h4 => opn (Or.inr (Or.inr h4))⟩⟩⟩, fun h1 => ⟨fun h2 => ⟨fun h3 => opn (Or.inl h3), fun h3 => ⟨fun h4 => opn (Or.inr (Or.inl h4)), fun h4 => ⟨fun h5 => nam (by omega) (by omega), fun h5 => opn (Or.inr (Or.inr h5))⟩⟩⟩, fun h2 => num h1 h2⟩⟩)
