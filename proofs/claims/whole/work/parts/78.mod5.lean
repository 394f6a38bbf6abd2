/-! THE MODEL: the law's text -/
def mby (g : Nat → Int) (n pl : Nat) : Int := if pl < n then g pl else 0
def SgOk (f g : Nat → Int) (n : Nat) : Prop := ∀ k, k < n → 0 ≤ g k ∧ g k < 256 ∧ f k = w8 (g k)
theorem mby_c {f g : Nat → Int} {n pl : Nat} {c : Int} (h : SgOk f g n) (h0 : 0 < c) (h1 : c < 128) : mby g n pl = c ↔ lsg f n pl = c := by
  unfold mby lsg
  by_cases hl : pl < n
  · rw [if_pos hl, if_pos hl]
    obtain ⟨a, b, e⟩ := h pl hl
    rw [e]; unfold w8; omega
  · rw [if_neg hl, if_neg hl]; omega
theorem mby_d {f g : Nat → Int} {n pl : Nat} (h : SgOk f g n) : (48 ≤ mby g n pl ∧ mby g n pl ≤ 57) ↔ (48 ≤ lsg f n pl ∧ lsg f n pl ≤ 57) := by
  unfold mby lsg
  by_cases hl : pl < n
  · rw [if_pos hl, if_pos hl]
    obtain ⟨a, b, e⟩ := h pl hl
    rw [e]; unfold w8; omega
  · rw [if_neg hl, if_neg hl]; omega
theorem mby_e {f g : Nat → Int} {n pl : Nat} (h : SgOk f g n) (hd : 48 ≤ lsg f n pl ∧ lsg f n pl ≤ 57) : mby g n pl = lsg f n pl := by
  unfold lsg at hd ⊢
  unfold mby
  by_cases hl : pl < n
  · rw [if_pos hl] at hd
    rw [if_pos hl, if_pos hl]
    obtain ⟨a, b, e⟩ := h pl hl
    rw [e] at hd ⊢
    unfold w8 at hd ⊢
    omega
  · rw [if_neg hl] at hd; omega
/-- the reader's text -/
def MLt (g : Nat → Int) (n : Nat) (I : KI) : Prop := n ≤ 120 ∧ I 101 22 = (n : Int) ∧ ((I 101 20 = -1 ∧ ∀ k : Nat, k < n → I 116 (k : Int) = g k) ∨ (I 101 20 = 0 ∧ ∀ k : Nat, k < n → I 117 (k : Int) = g k))
def MLw (g : Nat → Int) (n pl : Nat) (w : Bool) (o : Int) (I : KI) : Prop := MLt g n I ∧ I 101 21 = (pl : Int) ∧ pl ≤ n ∧ (w = false → I 101 23 = -1 ∧ I 101 24 = o) ∧ (w = true → I 101 23 = (pl : Int))
def mpf (I I' : KI) : Prop := ∀ a k, ¬ (a = 101 ∧ (k = 21 ∨ k = 23 ∨ k = 24)) → I' a k = I a k
theorem mpf.rf (I : KI) : mpf I I := fun _ _ _ => rfl
theorem mpf.tr {I J K : KI} (h : mpf I J) (g : mpf J K) : mpf I K := fun a k hk => (g a k hk).trans (h a k hk)
theorem MLt.fr {g : Nat → Int} {n : Nat} {I J : KI} (h : MLt g n I) (hf : mpf I J) : MLt g n J := by
  obtain ⟨h1, h2, h3⟩ := h
  refine ⟨h1, by rw [hf _ _ (by omega)]; exact h2, ?_⟩
  rcases h3 with ⟨a, b⟩ | ⟨a, b⟩
  · exact Or.inl ⟨by rw [hf _ _ (by omega)]; exact a, fun k hk => by rw [hf _ _ (by omega)]; exact b k hk⟩
  · exact Or.inr ⟨by rw [hf _ _ (by omega)]; exact a, fun k hk => by rw [hf _ _ (by omega)]; exact b k hk⟩
theorem t_M_byteAt {xs : KS} {d n pl : Nat} {w : Bool} {o : Int} {g : Nat → Int} {G : KG} {I : KI} {Q : KQ} (hC : MLw g n pl w o I) (h : Q (mby g n pl) G I) : kWP xs true (d) 0 0 173 0 [(0, 19, 0, 101)] [] G I Q := by
  obtain ⟨⟨h1, h2, h3⟩, h4, h5, _⟩ := hC
  unfold mby at h
  refine b_M_byteAt_0 ?_
  rw [h2, h4]
  refine ⟨fun hl => ?_, fun hl => ?_⟩
  · rw [if_neg (by omega)] at h; exact h
  · rw [if_pos (by omega)] at h
    rcases h3 with ⟨a, b⟩ | ⟨a, b⟩
    · rw [a]
      exact ⟨fun hh => absurd hh (by decide), fun _ => ⟨by omega, by rw [b pl (by omega)]; exact h⟩⟩
    · rw [a, Int.zero_add, w32_id (by omega) (by omega)]
      exact ⟨fun _ => ⟨by omega, by rw [b pl (by omega)]; exact h⟩, fun hh => absurd hh (by decide)⟩
theorem MLw.go {g : Nat → Int} {n pl : Nat} {o : Int} {I J : KI} (hC : MLw g n pl false o I) (hl : pl < n) (e : J = kst I 101 21 (w32 (I 101 21 + 1))) : MLw g n (pl + 1) false o J ∧ mpf I J := by
  have hf : mpf I J := fun a k hk => by rw [e, kst_n (by omega)]
  obtain ⟨h1, h4, h5, h6, h7⟩ := hC
  have hn := h1.1
  rw [h4, w32_inc (by omega)] at e
  exact ⟨⟨h1.fr hf, by rw [e, kst_s], hl, fun _ => ⟨by rw [e, kst_n (by omega)]; exact (h6 rfl).1, by rw [e, kst_n (by omega)]; exact (h6 rfl).2⟩, fun hh => by cases hh⟩, hf⟩
theorem mby_lt {g : Nat → Int} {n pl : Nat} {c : Int} (h : mby g n pl = c) (hc : c ≠ 0) : pl < n := by
  unfold mby at h
  rcases Nat.lt_or_ge pl n with hl | hl
  · exact hl
  · rw [if_neg (by omega)] at h; omega
theorem t_M_wrong {xs : KS} {d n pl : Nat} {o : Int} {g : Nat → Int} {G : KG} {I : KI} {Q : KQ} (hC : MLw g n pl false o I) (h : ∀ (o' : Int) (I' : KI), MLw g n pl true o' I' → mpf I I' → Q 0 G I') : kWP xs true (d) 0 0 174 0 [(0, 19, 0, 101)] [] G I Q := by
  obtain ⟨h1, h4, h5, h6, h7⟩ := hC
  refine b_M_wrong_0 ?_
  rw [(h6 rfl).1, h4]
  refine ⟨fun hh => absurd hh (by decide), fun _ J e => ?_⟩
  have hf : mpf I J := fun a k hk => by rw [e, kst_n (by omega)]
  exact h o J ⟨h1.fr hf, by rw [e, kst_n (by omega)]; exact h4, h5, fun hh => (by cases hh), fun _ => by rw [e, kst_s]⟩ hf
theorem t_M_takes {xs : KS} {d n pl : Nat} {w : Bool} {o c : Int} {g : Nat → Int} {G : KG} {I : KI} {Q : KQ} (hc : c ≠ 0) (hC : MLw g n pl w o I) (h0 : (w = true ∨ mby g n pl ≠ c) → Q 0 G I) (h1 : ∀ I' : KI, w = false → mby g n pl = c → MLw g n (pl + 1) false o I' → mpf I I' → Q 1 G I') : kWP xs true (d + 1) 0 0 175 0 [(0, 19, 0, 101), (1, 0, 0, c)] [] G I Q := by
  refine b_M_takes_0 ?_
  cases w with
  | true =>
    have := hC.2.2.2.2 rfl
    rw [this]
    exact ⟨fun _ => h0 (Or.inl rfl), fun hh => by omega⟩
  | false =>
    rw [(hC.2.2.2.1 rfl).1]
    refine ⟨fun hh => absurd hh (by decide), fun _ => t_M_byteAt hC ⟨fun h2 J e => ?_, fun h2 => h0 (Or.inr h2)⟩⟩
    have a := hC.go (mby_lt h2 hc) e
    exact h1 J rfl h2 a.1 a.2
/-- a level reads on, and never beyond the end -/
def Mon (n : Nat) (S : LSg) : Prop := ∀ pl, pl ≤ n → pl ≤ (S pl false).2.1 ∧ (S pl false).2.1 ≤ n
/-- a method of the model answers as a level does, where the text is right so far -/
def MLv (j : Nat) (xs : KS) (d : Nat) (g : Nat → Int) (n : Nat) (e : Int → Int) (o : Int) (S : LSg) : Prop :=
  ∀ (pl : Nat) (G : KG) (I : KI) (Q : KQ), MLw g n pl false o I → (∀ k : Nat, k < 5 → I 118 (k : Int) = e (6 + k)) → (∀ (v : Int) (o' : Int) (I' : KI), MLw g n (S pl false).2.1 (S pl false).2.2 o' I' → ((S pl false).2.2 = false → v = (S pl false).1 ∧ o' = o) → mpf I I' → Q v G I') → kWP xs true d 0 0 j 0 [(0, 19, 0, 101)] [] G I Q
theorem mpf.nm {I J : KI} {e : Int → Int} (h : mpf I J) (hn : ∀ k : Nat, k < 5 → I 118 (k : Int) = e (6 + k)) : ∀ k : Nat, k < 5 → J 118 (k : Int) = e (6 + k) := fun k hk => by rw [h _ _ (by omega)]; exact hn k hk
theorem MLw.o {g : Nat → Int} {n pl : Nat} {w : Bool} {o o' : Int} {I : KI} (h : MLw g n pl w o I) (e : w = false → o = o') : MLw g n pl w o' I := by
  obtain ⟨h1, h4, h5, h6, h7⟩ := h
  exact ⟨h1, h4, h5, fun hh => by rw [← e hh]; exact h6 hh, h7⟩
theorem lbl_w {f : Nat → Int} {n : Nat} {c : Int} {op : Int → Int → Int} {C : LSg} {r : LR} (h : r.2.2 = true) : ∀ k, lbl f n c op C k r = r
  | 0 => rfl
  | k + 1 => by rw [lbl, if_pos h]
theorem lbl_n {f : Nat → Int} {n : Nat} {c : Int} {op : Int → Int → Int} {C : LSg} {r : LR} (h : lsg f n r.2.1 ≠ c) : ∀ k, lbl f n c op C k r = r
  | 0 => rfl
  | k + 1 => by
    rw [lbl]
    by_cases hw : r.2.2 = true
    · rw [if_pos hw]
    · rw [if_neg hw, if_neg h]
theorem lsg_end {f : Nat → Int} {n pl : Nat} (h : n ≤ pl) : lsg f n pl = -1 := by unfold lsg; rw [if_neg (by omega)]
theorem mlv_both {xs : KS} {d : Nat} {f g : Nat → Int} {n : Nat} {e : Int → Int} {o : Int} {C : LSg} (hfg : SgOk f g n) (hM : Mon n C) (hS : MLv 178 xs (d + 1) g n e o C) : MLv 177 xs (d + 2) g n e o (lbth f n C) := by
  intro pl G I Q hC he h
  refine b_M_both_0 (hS pl G I _ hC he (fun v0 o0 J0 hJ0 hv0 hf0 => ?_))
  unfold lbth at h
  have hpl := hM pl hC.2.2.1
  suffices key : ∀ (k : Nat) (r : LR) (v : Int) (J : KI), n ≤ r.2.1 + k → MLw g n r.2.1 r.2.2 o J → (r.2.2 = false → v = r.1) → mpf I J → lbl f n 38 (fun a b => bi (decide (a ≠ 0 ∧ b ≠ 0))) C k r = lbl f n 38 (fun a b => bi (decide (a ≠ 0 ∧ b ≠ 0))) C 120 (C pl false) → kWP xs true (d + 2) 0 0 177 5 [(0, 19, 0, 101), (1, 0, 0, v)] [] G J Q from
    key 120 (C pl false) v0 J0 (by have := hC.1.1; omega) (hJ0.o (fun hw => (hv0 hw).2)) (fun hw => (hv0 hw).1) hf0 rfl
  intro k
  induction k with
  | zero =>
    intro r v J hk hJ hv hf hl
    have hn : lsg f n r.2.1 = -1 := lsg_end (by omega)
    rw [lbl_n (by omega)] at hl
    rw [← hl] at h
    refine b_M_both_5 (t_M_takes (by decide) hJ (fun _ => ⟨fun _ => h v o J hJ (fun hw => ⟨hv hw, rfl⟩) hf, fun hh => absurd rfl hh⟩) (fun J1 hw hm _ _ => ?_))
    rw [mby_c hfg (by decide) (by decide)] at hm; omega
  | succ k ih =>
    intro r v J hk hJ hv hf hl
    refine b_M_both_5 (t_M_takes (by decide) hJ (fun hn => ⟨fun _ => ?_, fun hh => absurd rfl hh⟩) (fun J1 hw hm hJ1 hf1 => ⟨fun hh => absurd hh (by decide), fun _ => ?_⟩))
    · have : lbl f n 38 (fun a b => bi (decide (a ≠ 0 ∧ b ≠ 0))) C (k + 1) r = r := by
        rcases hn with hn | hn
        · exact lbl_w hn _
        · rw [Ne, mby_c hfg (by decide) (by decide)] at hn
          exact lbl_n hn _
      rw [this] at hl
      rw [← hl] at h
      exact h v o J hJ (fun hw => ⟨hv hw, rfl⟩) hf
    · rw [mby_c hfg (by decide) (by decide)] at hm
      rw [lbl, if_neg (by rw [hw]; simp), if_pos hm] at hl
      simp only at hl
      have hlt := lsg_lt (f := f) (n := n) (pl := r.2.1) (by omega)
      have hq := hM (r.2.1 + 1) (by omega)
      refine hS _ G J1 _ hJ1 ((hf.tr hf1).nm he) (fun v2 o2 J2 hJ2 hv2 hf2 => ?_)
      have go : ∀ b : Bool, ((C (r.2.1 + 1) false).2.2 = false → b = decide (r.1 ≠ 0 ∧ (C (r.2.1 + 1) false).1 ≠ 0)) → kWP xs true (d + 2) 0 0 177 5 [(0, 19, 0, 101), (1, 0, 0, bi b)] [] G J2 Q := fun b hb =>
        ih (bi (decide (r.1 ≠ 0 ∧ (C (r.2.1 + 1) false).1 ≠ 0)), (C (r.2.1 + 1) false).2) (bi b) J2 (by show n ≤ (C (r.2.1 + 1) false).2.1 + k; omega) (hJ2.o (fun hw => (hv2 hw).2)) (fun hw => by rw [hb hw]) ((hf.tr hf1).tr hf2) hl
      have hvr := hv hw
      refine ⟨fun h0 => go false (fun hw2 => ?_), fun h0 => ⟨fun h3 => go false (fun hw2 => ?_), fun h3 => go true (fun hw2 => ?_)⟩⟩
      · rw [decide_eq_false (fun hh => hh.1 (by rw [← hvr]; exact h0))]
      · rw [decide_eq_false (fun hh => hh.2 (by rw [← (hv2 hw2).1]; exact h3))]
      · rw [decide_eq_true ⟨by rw [← hvr]; exact h0, by rw [← (hv2 hw2).1]; exact h3⟩]
theorem mlv_either {xs : KS} {d : Nat} {f g : Nat → Int} {n : Nat} {e : Int → Int} {o : Int} {C : LSg} (hfg : SgOk f g n) (hM : Mon n C) (hS : MLv 177 xs (d + 1) g n e o C) : MLv 176 xs (d + 2) g n e o (leit f n C) := by
  intro pl G I Q hC he h
  refine b_M_either_0 (hS pl G I _ hC he (fun v0 o0 J0 hJ0 hv0 hf0 => ?_))
  unfold leit at h
  have hpl := hM pl hC.2.2.1
  suffices key : ∀ (k : Nat) (r : LR) (v : Int) (J : KI), n ≤ r.2.1 + k → MLw g n r.2.1 r.2.2 o J → (r.2.2 = false → v = r.1) → mpf I J → lbl f n 124 (fun a b => bi (decide (a ≠ 0 ∨ b ≠ 0))) C k r = lbl f n 124 (fun a b => bi (decide (a ≠ 0 ∨ b ≠ 0))) C 120 (C pl false) → kWP xs true (d + 2) 0 0 176 5 [(0, 19, 0, 101), (1, 0, 0, v)] [] G J Q from
    key 120 (C pl false) v0 J0 (by have := hC.1.1; omega) (hJ0.o (fun hw => (hv0 hw).2)) (fun hw => (hv0 hw).1) hf0 rfl
  intro k
  induction k with
  | zero =>
    intro r v J hk hJ hv hf hl
    have hn : lsg f n r.2.1 = -1 := lsg_end (by omega)
    rw [lbl_n (by omega)] at hl
    rw [← hl] at h
    refine b_M_either_5 (t_M_takes (by decide) hJ (fun _ => ⟨fun _ => h v o J hJ (fun hw => ⟨hv hw, rfl⟩) hf, fun hh => absurd rfl hh⟩) (fun J1 hw hm _ _ => ?_))
    rw [mby_c hfg (by decide) (by decide)] at hm; omega
  | succ k ih =>
    intro r v J hk hJ hv hf hl
    refine b_M_either_5 (t_M_takes (by decide) hJ (fun hn => ⟨fun _ => ?_, fun hh => absurd rfl hh⟩) (fun J1 hw hm hJ1 hf1 => ⟨fun hh => absurd hh (by decide), fun _ => ?_⟩))
    · have : lbl f n 124 (fun a b => bi (decide (a ≠ 0 ∨ b ≠ 0))) C (k + 1) r = r := by
        rcases hn with hn | hn
        · exact lbl_w hn _
        · rw [Ne, mby_c hfg (by decide) (by decide)] at hn
          exact lbl_n hn _
      rw [this] at hl
      rw [← hl] at h
      exact h v o J hJ (fun hw => ⟨hv hw, rfl⟩) hf
    · rw [mby_c hfg (by decide) (by decide)] at hm
      rw [lbl, if_neg (by rw [hw]; simp), if_pos hm] at hl
      simp only at hl
      have hlt := lsg_lt (f := f) (n := n) (pl := r.2.1) (by omega)
      have hq := hM (r.2.1 + 1) (by omega)
      refine hS _ G J1 _ hJ1 ((hf.tr hf1).nm he) (fun v2 o2 J2 hJ2 hv2 hf2 => ?_)
      have go : ∀ b : Bool, ((C (r.2.1 + 1) false).2.2 = false → b = decide (r.1 ≠ 0 ∨ (C (r.2.1 + 1) false).1 ≠ 0)) → kWP xs true (d + 2) 0 0 176 5 [(0, 19, 0, 101), (1, 0, 0, bi b)] [] G J2 Q := fun b hb =>
        ih (bi (decide (r.1 ≠ 0 ∨ (C (r.2.1 + 1) false).1 ≠ 0)), (C (r.2.1 + 1) false).2) (bi b) J2 (by show n ≤ (C (r.2.1 + 1) false).2.1 + k; omega) (hJ2.o (fun hw => (hv2 hw).2)) (fun hw => by rw [hb hw]) ((hf.tr hf1).tr hf2) hl
      have hvr := hv hw
      refine ⟨fun h0 => go true (fun hw2 => ?_), fun h0 => ⟨fun h3 => go false (fun hw2 => ?_), fun h3 => go true (fun hw2 => ?_)⟩⟩
      · rw [decide_eq_true (Or.inl (by rw [← hvr]; exact h0))]
      · rw [decide_eq_false (fun hh => hh.elim (fun x => x (by rw [← hvr]; exact h0)) (fun x => x (by rw [← (hv2 hw2).1]; exact h3)))]
      · rw [decide_eq_true (Or.inr (by rw [← (hv2 hw2).1]; exact h3))]
theorem mlv_compared {xs : KS} {d : Nat} {f g : Nat → Int} {n : Nat} {e : Int → Int} {o : Int} {A : LSg} (hfg : SgOk f g n) (hM : Mon n A) (hS : MLv 179 xs d g n e o A) : MLv 178 xs (d + 1) g n e o (lcmp f n A) := by
  intro pl G I Q hC he h
  refine b_M_compared_0 (hS pl G I _ hC he (fun v o1 J hJ hv hf => t_M_byteAt hJ ?_))
  have hpl := hM pl hC.2.2.1
  cases hw : (A pl false).2.2 with
  | true =>
    have e1 : lcmp f n A pl false = (0, (A pl false).2) := by unfold lcmp; simp only; rw [if_pos hw]
    rw [e1] at h
    have := hJ.2.2.2.2 hw
    rw [this]
    exact ⟨fun _ => h v o1 J hJ (fun hh => by rw [hw] at hh; cases hh) hf, fun hh => by omega⟩
  | false =>
    obtain ⟨hv1, ho1⟩ := hv hw
    subst ho1
    rw [hw] at hJ
    rw [(hJ.2.2.2.1 rfl).1]
    refine ⟨fun hh => absurd hh (by decide), fun _ => ?_⟩
    have nw : ¬ (A pl false).2.2 = true := by rw [hw]; simp
    have second : ∀ (J1 : KI) (Q1 : KQ), mby g n (A pl false).2.1 ≠ 0 → J1 = kst J 101 21 (w32 (J 101 21 + 1)) → (∀ (v2 o2 : Int) (J2 : KI), MLw g n (A ((A pl false).2.1 + 1) false).2.1 (A ((A pl false).2.1 + 1) false).2.2 o2 J2 → ((A ((A pl false).2.1 + 1) false).2.2 = false → v2 = (A ((A pl false).2.1 + 1) false).1 ∧ o2 = o1) → mpf I J2 → Q1 v2 G J2) → kWP xs true d 0 0 179 0 [(0, 19, 0, 101)] [] G J1 Q1 := fun J1 Q1 hne e1 hq => by
      have a := hJ.go (mby_lt rfl hne) e1
      exact hS _ G J1 Q1 a.1 ((hf.tr a.2).nm he) (fun v2 o2 J2 hJ2 hv2 hf2 => hq v2 o2 J2 hJ2 hv2 ((hf.tr a.2).tr hf2))
    refine ⟨fun m1 J1 e1 => second J1 _ (by omega) e1 (fun v2 o2 J2 hJ2 hv2 hf2 => ?_), fun m1 => ⟨fun m2 J1 e1 => second J1 _ (by omega) e1 (fun v2 o2 J2 hJ2 hv2 hf2 => ?_), fun m2 => ⟨fun m3 J1 e1 => second J1 _ (by omega) e1 (fun v2 o2 J2 hJ2 hv2 hf2 => ?_), fun m3 => ?_⟩⟩⟩
    · have y := (mby_c hfg (by decide) (by decide)).mp m1
      have e2 : lcmp f n A pl false = (bi (decide ((A pl false).1 < (A ((A pl false).2.1 + 1) false).1)), (A ((A pl false).2.1 + 1) false).2) := by unfold lcmp; simp only; rw [if_neg nw, if_pos y]
      rw [e2] at h
      refine ⟨fun q => absurd m1 q, fun _ => ⟨fun q => h 0 o2 J2 hJ2 (fun hw2 => ⟨?_, (hv2 hw2).2⟩) hf2, fun q => h 1 o2 J2 hJ2 (fun hw2 => ⟨?_, (hv2 hw2).2⟩) hf2⟩⟩
      · rw [decide_eq_false (by rw [← hv1, ← (hv2 hw2).1]; omega)]; rfl
      · rw [decide_eq_true (by rw [← hv1, ← (hv2 hw2).1]; omega)]; rfl
    · have n1 := fun hh => m1 ((mby_c (c := 60) hfg (by decide) (by decide)).mpr hh)
      have y := (mby_c hfg (by decide) (by decide)).mp m2
      have e2 : lcmp f n A pl false = (bi (decide ((A pl false).1 = (A ((A pl false).2.1 + 1) false).1)), (A ((A pl false).2.1 + 1) false).2) := by unfold lcmp; simp only; rw [if_neg nw, if_neg n1, if_pos y]
      rw [e2] at h
      refine ⟨fun _ => ⟨fun q => absurd m2 q, fun _ => ⟨fun q => h 0 o2 J2 hJ2 (fun hw2 => ⟨?_, (hv2 hw2).2⟩) hf2, fun q => h 1 o2 J2 hJ2 (fun hw2 => ⟨?_, (hv2 hw2).2⟩) hf2⟩⟩, fun q => absurd q m1⟩
      · rw [decide_eq_false (by rw [← hv1, ← (hv2 hw2).1]; omega)]; rfl
      · rw [decide_eq_true (by rw [← hv1, ← (hv2 hw2).1]; omega)]; rfl
    · have n1 := fun hh => m1 ((mby_c (c := 60) hfg (by decide) (by decide)).mpr hh)
      have n2 := fun hh => m2 ((mby_c (c := 61) hfg (by decide) (by decide)).mpr hh)
      have y := (mby_c hfg (by decide) (by decide)).mp m3
      have e2 : lcmp f n A pl false = (bi (decide ((A ((A pl false).2.1 + 1) false).1 < (A pl false).1)), (A ((A pl false).2.1 + 1) false).2) := by unfold lcmp; simp only; rw [if_neg nw, if_neg n1, if_neg n2, if_pos y]
      rw [e2] at h
      refine ⟨fun _ => ⟨fun _ => ⟨fun q => h 0 o2 J2 hJ2 (fun hw2 => ⟨?_, (hv2 hw2).2⟩) hf2, fun q => h 1 o2 J2 hJ2 (fun hw2 => ⟨?_, (hv2 hw2).2⟩) hf2⟩, fun q => absurd q m2⟩, fun q => absurd q m1⟩
      · rw [decide_eq_false (by rw [← hv1, ← (hv2 hw2).1]; omega)]; rfl
      · rw [decide_eq_true (by rw [← hv1, ← (hv2 hw2).1]; omega)]; rfl
    · have n1 := fun hh => m1 ((mby_c (c := 60) hfg (by decide) (by decide)).mpr hh)
      have n2 := fun hh => m2 ((mby_c (c := 61) hfg (by decide) (by decide)).mpr hh)
      have n3 := fun hh => m3 ((mby_c (c := 62) hfg (by decide) (by decide)).mpr hh)
      have e2 : lcmp f n A pl false = A pl false := by unfold lcmp; simp only; rw [if_neg nw, if_neg n1, if_neg n2, if_neg n3]
      rw [e2] at h
      exact h v o1 J (by rw [hw]; exact hJ) (fun _ => ⟨hv1, rfl⟩) hf
