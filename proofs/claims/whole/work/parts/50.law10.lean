/-! THE LAW'S TEXT: what is opened; the levels by how many may be open -/
theorem LvlOk.wk {j : Nat} {xs : KS} {d d' : Nat} {f : Nat → Int} {n : Nat} {e : Int → Int} {o : Int} {S : LSg} (h : LvlOk j xs d f n e o S) (hd : d = d') : LvlOk j xs d' f n e o S := by subst hd; exact h
def lopn (f : Nat → Int) (n : Nat) (E S : LSg) : LSg := fun pl w =>
  if lsg f n pl = 33 then let q := S (pl + 1) w; (bi (decide (q.1 = 0)), q.2)
  else if lsg f n pl = 45 then let q := S (pl + 1) w; (w32 (-q.1), q.2)
  else let q := E (pl + 1) w
    if q.2.2 then q else if lsg f n q.2.1 = 41 then (q.1, q.2.1 + 1, false) else (q.1, q.2.1, true)
/-- nothing more may be open -/
def lop0 : LSg := fun pl _ => (0, pl, true)
theorem lvl_opened0 {xs : KS} {d : Nat} {f : Nat → Int} {n : Nat} {e : Int → Int} {o : Int} (ho : 6 ≤ o) : LvlOk 21 xs (d + 1) f n e o lop0 := by
  intro pl w G I Q hC he h
  refine b_Law_opened_0 ⟨fun h1 => by omega, fun _ J e1 => ?_⟩
  have hb := hC.bad e1
  exact h J hb.1 hb.2
theorem lsg_lt {f : Nat → Int} {n pl : Nat} (h : lsg f n pl ≠ -1) : pl < n := by
  unfold lsg at h
  rcases Nat.lt_or_ge pl n with hl | hl
  · exact hl
  · rw [if_neg (by omega)] at h; omega
/-- at ( ! - only -/
theorem lvl_opened {xs : KS} {d : Nat} {f : Nat → Int} {n : Nat} {e : Int → Int} {o : Int} {E S : LSg} (ho : o < 6) (ho0 : 0 ≤ o) (hE : LvlOk 12 xs (d + 1) f n e (o + 1) E) (hS : LvlOk 19 xs (d + 1) f n e (o + 1) S) :
    ∀ (pl : Nat) (w : Bool) (G : KG) (I : KI) (Q : KQ), (lsg f n pl = 40 ∨ lsg f n pl = 33 ∨ lsg f n pl = 45) → CLw f n pl w G I → (∀ k : Int, 6 ≤ k → k ≤ 10 → I 21 k = e k) → (∀ I' : KI, CLw f n (lopn f n E S pl w).2.1 (lopn f n E S pl w).2.2 G I' → lfr I I' → Q (lopn f n E S pl w).1 G I') → kWP xs true (d + 2) 0 0 21 0 [(0, 11, 0, 21), (1, 0, 0, o)] [] G I Q := by
  intro pl w G I Q hs hC he h
  unfold lopn at h
  refine b_Law_opened_0 ⟨fun _ => t_Law_comes (by decide) hC (fun n1 => ⟨fun _ => t_Law_comes (by decide) hC (fun n2 => ⟨fun _ J e1 => ?_, fun hh => absurd rfl hh⟩) (fun J y hJ hf => ⟨fun hh => absurd hh (by decide), fun _ => ?_⟩), fun hh => absurd rfl hh⟩) (fun J y hJ hf => ⟨fun hh => absurd hh (by decide), fun _ => ?_⟩), fun h1 => by omega⟩
  · rw [if_neg n1, if_neg n2] at h
    have hpl := lsg_lt (f := f) (n := n) (pl := pl) (by omega)
    obtain ⟨c1, c2, c3, c4, c5, c6, c7⟩ := hC
    have hJ : CLw f n (pl + 1) w G J := ⟨c1, by rw [e1, kst_k (by omega)]; exact c2, by rw [e1, kst_s, c3, w32_id (by omega) (by omega)]; omega, by omega, by rw [e1, kst_k (by omega)]; exact c5, fun k hk => by rw [e1, kst_a c7]; exact c6 k hk, c7⟩
    have hf : lfr I J := fun a k hk => by rw [e1, kst_n (by omega)]
    rw [w32_id (by omega) (by omega)]
    refine hE _ _ G J _ hJ (hf.he he) (fun J2 hJ2 hf2 => ?_)
    have h5 : J2 21 5 = bi (E (pl + 1) w).2.2 := hJ2.2.2.2.2.1
    simp only at h
    refine ⟨fun hw => ?_, fun hw => ?_⟩
    · rw [h5] at hw
      rw [if_pos (bi1 hw)] at h
      exact h J2 hJ2 (hf.tr hf2)
    · rw [h5] at hw
      have hw := bi0 hw
      rw [if_neg (by rw [hw]; simp)] at h
      rw [hw] at hJ2
      refine t_Law_comes (by decide) hJ2 (fun n3 => ⟨fun hh => absurd rfl hh, fun _ J3 e3 => ?_⟩) (fun J3 y hJ3 hf3 => ⟨fun _ => ?_, fun hh => absurd hh (by decide)⟩)
      · rw [if_neg n3] at h
        have hb := hJ2.bad e3
        exact h J3 hb.1 ((hf.tr hf2).tr hb.2)
      · rw [if_pos y] at h
        exact h J3 hJ3 ((hf.tr hf2).tr hf3)
  · rw [if_neg n1, if_pos y] at h
    rw [w32_id (by omega) (by omega)]
    exact hS _ _ G J _ hJ (hf.he he) (fun J2 hJ2 hf2 => h J2 hJ2 (hf.tr hf2))
  · rw [if_pos y] at h
    rw [w32_id (by omega) (by omega)]
    refine hS _ _ G J _ hJ (hf.he he) (fun J2 hJ2 hf2 => ?_)
    have h := h J2 hJ2 (hf.tr hf2)
    simp only at h
    refine ⟨fun h1 => ?_, fun h1 => ?_⟩
    · rw [decide_eq_false h1] at h; exact h
    · rw [decide_eq_true h1] at h; exact h
/-- like lvl_single, the opened ones wanted at ( ! - only -/
theorem lvl_single' {xs : KS} {d : Nat} {f : Nat → Int} {n : Nat} {e : Int → Int} {o : Int} {O : LSg} (hO : ∀ (pl : Nat) (w : Bool) (G : KG) (I : KI) (Q : KQ), (lsg f n pl = 40 ∨ lsg f n pl = 33 ∨ lsg f n pl = 45) → CLw f n pl w G I → (∀ k : Int, 6 ≤ k → k ≤ 10 → I 21 k = e k) → (∀ I' : KI, CLw f n (O pl w).2.1 (O pl w).2.2 G I' → lfr I I' → Q (O pl w).1 G I') → kWP xs true (d + 2) 0 0 21 0 [(0, 11, 0, 21), (1, 0, 0, o)] [] G I Q) : LvlOk 19 xs (d + 3) f n e o (lsn f n e O) := by
  intro pl w G I Q hC he h
  have num : 48 ≤ lsg f n pl → lsg f n pl ≤ 57 → kWP xs true (d + 2) 0 0 22 0 [(0, 11, 0, 21)] [] G I Q := fun a b => by
    have e1 : lsn f n e O pl w = ((lnm f n 4 0 pl).1, (lnm f n 4 0 pl).2, w) := by unfold lsn; rw [if_pos ⟨a, b⟩]
    rw [e1] at h
    exact t_Law_number hC h
  have opn : lsg f n pl = 40 ∨ lsg f n pl = 33 ∨ lsg f n pl = 45 → kWP xs true (d + 2) 0 0 21 0 [(0, 11, 0, 21), (1, 0, 0, o)] [] G I Q := fun a => by
    have e1 : lsn f n e O pl w = O pl w := by unfold lsn; rw [if_neg (by omega), if_pos a]
    rw [e1] at h
    exact hO pl w G I Q a hC he h
  have nam : ¬ (48 ≤ lsg f n pl ∧ lsg f n pl ≤ 57) → ¬ (lsg f n pl = 40 ∨ lsg f n pl = 33 ∨ lsg f n pl = 45) → kWP xs true (d + 2) 0 0 20 0 [(0, 11, 0, 21)] [] G I Q := fun a b => by
    have e1 : lsn f n e O pl w = lnd f n e pl w := by unfold lsn; rw [if_neg a, if_neg b]
    rw [e1] at h
    exact t_Law_named hC he h
  refine b_Law_single_0 (t_Law_next hC ⟨fun h1 => ⟨fun h2 => opn (Or.inl h2), fun h2 => ⟨fun h3 => opn (Or.inr (Or.inl h3)), fun h3 => ⟨fun h4 => nam (by omega) (by omega), fun h4 => opn (Or.inr (Or.inr h4))⟩⟩⟩, fun h1 => ⟨fun h2 => ⟨fun h3 => opn (Or.inl h3), fun h3 => ⟨fun h4 => opn (Or.inr (Or.inl h4)), fun h4 => ⟨fun h5 => nam (by omega) (by omega), fun h5 => opn (Or.inr (Or.inr h5))⟩⟩⟩, fun h2 => num h1 h2⟩⟩)
/-- what is opened, where u more may be: singles and all -/
def lsU (f : Nat → Int) (n : Nat) (e : Int → Int) : Nat → LSg
  | 0 => lsn f n e lop0
  | u + 1 => lsn f n e (lopn f n (lexp f n (lsU f n e u)) (lsU f n e u))
theorem lvl_expU {xs : KS} {f : Nat → Int} {n : Nat} {e : Int → Int} {o : Int} {S : LSg} {d : Nat} (hS : LvlOk 19 xs (d + 3) f n e o S) : LvlOk 12 xs (d + 8) f n e o (lexp f n S) :=
  lvl_either (d := d + 6) (lvl_both (d := d + 5) (lvl_compared (d := d + 4) (lvl_added (d := d + 3) (lvl_multiplied (d := d + 2) hS))))
theorem LvlOk.up {j : Nat} {xs : KS} {f : Nat → Int} {n : Nat} {e : Int → Int} {o : Int} {S : LSg} (D : Nat) (h : ∀ d, LvlOk j xs (d + D) f n e o S) {D' : Nat} (hD : D ≤ D') : ∀ d, LvlOk j xs (d + D') f n e o S := fun d => (h (d + (D' - D))).wk (by omega)
theorem lvl_U {xs : KS} {f : Nat → Int} {n : Nat} {e : Int → Int} : ∀ (u : Nat), u ≤ 6 → ∀ d, LvlOk 19 xs (d + (7 * u + 3)) f n e (6 - u : Int) (lsU f n e u)
  | 0, _, d => lvl_single (d := d) (lvl_opened0 (d := d + 1) (by omega))
  | u + 1, hu, d => by
    have ih := lvl_U (xs := xs) (f := f) (n := n) (e := e) u (by omega)
    have hE := lvl_expU (d := d + 7 * u) ((ih d).wk (by omega))
    have hS := ih (d + 5)
    have ho : ((6 : Int) - ((u + 1 : Nat) : Int)) + 1 = 6 - (u : Int) := by omega
    have h1 := lvl_opened (xs := xs) (d := d + 7 * u + 7) (f := f) (n := n) (e := e) (o := (6 : Int) - ((u + 1 : Nat) : Int)) (E := lexp f n (lsU f n e u)) (S := lsU f n e u) (by omega) (by omega) (by rw [ho]; exact hE.wk (by omega)) (by rw [ho]; exact hS.wk (by omega))
    exact (lvl_single' (d := d + 7 * u + 7) h1).wk (by omega)
def lE (f : Nat → Int) (n : Nat) (e : Int → Int) : LSg := lexp f n (lsU f n e 6)
theorem lvl_E {xs : KS} {f : Nat → Int} {n : Nat} {e : Int → Int} (d : Nat) : LvlOk 12 xs (d + 50) f n e 0 (lE f n e) := (lvl_expU (lvl_U 6 (by omega) d)).wk (by omega)
