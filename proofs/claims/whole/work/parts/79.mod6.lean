/-! THE MODEL: the law's text, adding and multiplying; singles -/
theorem lal_w {f : Nat → Int} {n : Nat} {M : LSg} {r : LR} (h : r.2.2 = true) : ∀ k, lal f n M k r = r
  | 0 => rfl
  | k + 1 => by rw [lal, if_pos h]
theorem lal_n {f : Nat → Int} {n : Nat} {M : LSg} {r : LR} (h1 : lsg f n r.2.1 ≠ 43) (h2 : lsg f n r.2.1 ≠ 45) : ∀ k, lal f n M k r = r
  | 0 => rfl
  | k + 1 => by
    rw [lal]
    by_cases hw : r.2.2 = true
    · rw [if_pos hw]
    · rw [if_neg hw, if_neg h1, if_neg h2]
theorem lml_w {f : Nat → Int} {n : Nat} {M : LSg} {r : LR} (h : r.2.2 = true) : ∀ k, lml f n M k r = r
  | 0 => rfl
  | k + 1 => by rw [lml, if_pos h]
theorem lml_n {f : Nat → Int} {n : Nat} {M : LSg} {r : LR} (h1 : lsg f n r.2.1 ≠ 42) (h2 : lsg f n r.2.1 ≠ 47) (h3 : lsg f n r.2.1 ≠ 37) : ∀ k, lml f n M k r = r
  | 0 => rfl
  | k + 1 => by
    rw [lml]
    by_cases hw : r.2.2 = true
    · rw [if_pos hw]
    · rw [if_neg hw, if_neg h1, if_neg h2, if_neg h3]
theorem mlv_sums {xs : KS} {d : Nat} {f g : Nat → Int} {n : Nat} {e : Int → Int} {o : Int} {M : LSg} (hfg : SgOk f g n) (hM : Mon n M) (hS : MLv 180 xs d g n e o M) : MLv 179 xs (d + 1) g n e o (ladd f n M) := by
  intro pl G I Q hC he h
  refine b_M_sums_0 (hS pl G I _ hC he (fun v0 o0 J0 hJ0 hv0 hf0 => ?_))
  unfold ladd at h
  have hpl := hM pl hC.2.2.1
  suffices key : ∀ (k : Nat) (r : LR) (v : Int) (J : KI), n ≤ r.2.1 + k → MLw g n r.2.1 r.2.2 o J → (r.2.2 = false → v = r.1) → mpf I J → lal f n M k r = lal f n M 120 (M pl false) → kWP xs true (d + 1) 0 0 179 5 [(0, 19, 0, 101), (1, 0, 0, v)] [] G J Q from
    key 120 (M pl false) v0 J0 (by have := hC.1.1; omega) (hJ0.o (fun hw => (hv0 hw).2)) (fun hw => (hv0 hw).1) hf0 rfl
  intro k
  induction k with
  | zero =>
    intro r v J hk hJ hv hf hl
    have hn : lsg f n r.2.1 = -1 := lsg_end (by omega)
    rw [lal_n (by omega) (by omega)] at hl
    rw [← hl] at h
    have q : Q v G J := h v o J hJ (fun hw => ⟨hv hw, rfl⟩) hf
    have m1 : mby g n r.2.1 ≠ 43 := fun hh => by rw [mby_c hfg (by decide) (by decide)] at hh; omega
    have m2 : mby g n r.2.1 ≠ 45 := fun hh => by rw [mby_c hfg (by decide) (by decide)] at hh; omega
    exact b_M_sums_5 ⟨fun _ => q, fun _ => t_M_byteAt hJ ⟨fun hh => absurd hh m1, fun _ => t_M_byteAt hJ ⟨fun _ => q, fun hh => absurd hh m2⟩⟩⟩
  | succ k ih =>
    intro r v J hk hJ hv hf hl
    cases hw : r.2.2 with
    | true =>
      rw [lal_w hw] at hl
      rw [← hl] at h
      have q : Q v G J := h v o J hJ (fun hw => ⟨hv hw, rfl⟩) hf
      have := hJ.2.2.2.2 hw
      exact b_M_sums_5 ⟨fun _ => q, fun hh => by omega⟩
    | false =>
      have hvr := hv hw
      have nw : ¬ r.2.2 = true := by rw [hw]; simp
      rw [hw] at hJ
      have h23 := (hJ.2.2.2.1 rfl).1
      have go : ∀ (J1 : KI) (Q1 : KQ) (nv : Int), mby g n r.2.1 ≠ 0 → J1 = kst J 101 21 (w32 (J 101 21 + 1)) → (∀ (v2 : Int) (J2 : KI), MLw g n (M (r.2.1 + 1) false).2.1 (M (r.2.1 + 1) false).2.2 o J2 → ((M (r.2.1 + 1) false).2.2 = false → v2 = (M (r.2.1 + 1) false).1) → mpf I J2 → Q1 v2 G J2) → kWP xs true d 0 0 180 0 [(0, 19, 0, 101)] [] G J1 Q1 := fun J1 Q1 nv hne e1 hq => by
        have a := hJ.go (mby_lt rfl hne) e1
        exact hS _ G J1 Q1 a.1 ((hf.tr a.2).nm he) (fun v2 o2 J2 hJ2 hv2 hf2 => hq v2 J2 (hJ2.o (fun hw => (hv2 hw).2)) (fun hw => (hv2 hw).1) ((hf.tr a.2).tr hf2))
      refine b_M_sums_5 ⟨fun hh => by omega, fun _ => t_M_byteAt hJ ⟨fun m1 => t_M_byteAt hJ ⟨fun hh => absurd m1 hh, fun _ J1 e1 => go J1 _ 0 (by omega) e1 (fun v2 J2 hJ2 hv2 hf2 => ⟨fun hh => absurd hh (by decide), fun _ => ?_⟩)⟩, fun m1 => t_M_byteAt hJ ⟨fun m2 => ?_, fun m2 => t_M_byteAt hJ ⟨fun _ J1 e1 => go J1 _ 0 (by omega) e1 (fun v2 J2 hJ2 hv2 hf2 => ⟨fun _ => ?_, fun hh => absurd rfl hh⟩), fun hh => absurd hh m1⟩⟩⟩⟩
      · have y := (mby_c hfg (by decide) (by decide)).mp m1
        have hlt := lsg_lt (f := f) (n := n) (pl := r.2.1) (by omega)
        have hq := hM (r.2.1 + 1) (by omega)
        rw [lal, if_neg nw, if_pos y] at hl
        exact ih (w32 (r.1 + (M (r.2.1 + 1) false).1), (M (r.2.1 + 1) false).2) _ J2 (by show n ≤ (M (r.2.1 + 1) false).2.1 + k; omega) hJ2 (fun hw2 => by rw [hvr, hv2 hw2]) hf2 hl
      · have n1 := fun hh => m1 ((mby_c (c := 43) hfg (by decide) (by decide)).mpr hh)
        have n2 := fun hh => m2 ((mby_c (c := 45) hfg (by decide) (by decide)).mpr hh)
        rw [lal_n n1 n2] at hl
        rw [← hl] at h
        exact h v o J (by rw [hw]; exact hJ) (fun _ => ⟨hvr, rfl⟩) hf
      · have n1 := fun hh => m1 ((mby_c (c := 43) hfg (by decide) (by decide)).mpr hh)
        have y := (mby_c hfg (by decide) (by decide)).mp m2
        have hlt := lsg_lt (f := f) (n := n) (pl := r.2.1) (by omega)
        have hq := hM (r.2.1 + 1) (by omega)
        rw [lal, if_neg nw, if_neg n1, if_pos y] at hl
        exact ih (w32 (r.1 - (M (r.2.1 + 1) false).1), (M (r.2.1 + 1) false).2) _ J2 (by show n ≤ (M (r.2.1 + 1) false).2.1 + k; omega) hJ2 (fun hw2 => by rw [hvr, hv2 hw2]) hf2 hl
theorem mlv_product {xs : KS} {d : Nat} {f g : Nat → Int} {n : Nat} {e : Int → Int} {o : Int} {S : LSg} (hfg : SgOk f g n) (hM : Mon n S) (hS : MLv 182 xs d g n e o S) : MLv 180 xs (d + 1) g n e o (lmul f n S) := by
  intro pl G I Q hC he h
  refine b_M_product_0 (hS pl G I _ hC he (fun v0 o0 J0 hJ0 hv0 hf0 => t_M_byteAt hJ0 ?_))
  unfold lmul at h
  have hpl := hM pl hC.2.2.1
  suffices key : ∀ (k : Nat) (r : LR) (v : Int) (J : KI), n ≤ r.2.1 + k → MLw g n r.2.1 r.2.2 o J → (r.2.2 = false → v = r.1) → mpf I J → lml f n S k r = lml f n S 120 (S pl false) → kWP xs true (d + 1) 0 0 180 10 [(0, 19, 0, 101), (1, 0, 0, v), (2, 0, 0, mby g n r.2.1)] [] G J Q from
    key 120 (S pl false) v0 J0 (by have := hC.1.1; omega) (hJ0.o (fun hw => (hv0 hw).2)) (fun hw => (hv0 hw).1) hf0 rfl
  intro k
  induction k with
  | zero =>
    intro r v J hk hJ hv hf hl
    have hn : lsg f n r.2.1 = -1 := lsg_end (by omega)
    rw [lml_n (by omega) (by omega) (by omega)] at hl
    rw [← hl] at h
    have q : Q v G J := h v o J hJ (fun hw => ⟨hv hw, rfl⟩) hf
    have m1 : mby g n r.2.1 ≠ 42 := fun hh => by rw [mby_c hfg (by decide) (by decide)] at hh; omega
    have m2 : mby g n r.2.1 ≠ 47 := fun hh => by rw [mby_c hfg (by decide) (by decide)] at hh; omega
    have m3 : mby g n r.2.1 ≠ 37 := fun hh => by rw [mby_c hfg (by decide) (by decide)] at hh; omega
    exact b_M_product_10 ⟨fun _ => q, fun _ => ⟨fun hh => absurd hh m1, fun _ => ⟨fun hh => absurd hh m2, fun _ => ⟨fun _ => q, fun hh => absurd hh m3⟩⟩⟩⟩
  | succ k ih =>
    intro r v J hk hJ hv hf hl
    cases hw : r.2.2 with
    | true =>
      rw [lml_w hw] at hl
      rw [← hl] at h
      have q : Q v G J := h v o J hJ (fun hw => ⟨hv hw, rfl⟩) hf
      have := hJ.2.2.2.2 hw
      exact b_M_product_10 ⟨fun _ => q, fun hh => by omega⟩
    | false =>
      have hvr := hv hw
      have nw : ¬ r.2.2 = true := by rw [hw]; simp
      rw [hw] at hJ
      have h23 := (hJ.2.2.2.1 rfl).1
      have go : ∀ (J1 : KI) (Q1 : KQ), mby g n r.2.1 ≠ 0 → J1 = kst J 101 21 (w32 (J 101 21 + 1)) → (∀ (v2 : Int) (J2 : KI), MLw g n (S (r.2.1 + 1) false).2.1 (S (r.2.1 + 1) false).2.2 o J2 → ((S (r.2.1 + 1) false).2.2 = false → v2 = (S (r.2.1 + 1) false).1) → mpf I J2 → Q1 v2 G J2) → kWP xs true d 0 0 182 0 [(0, 19, 0, 101)] [] G J1 Q1 := fun J1 Q1 hne e1 hq => by
        have a := hJ.go (mby_lt rfl hne) e1
        exact hS _ G J1 Q1 a.1 ((hf.tr a.2).nm he) (fun v2 o2 J2 hJ2 hv2 hf2 => hq v2 J2 (hJ2.o (fun hw => (hv2 hw).2)) (fun hw => (hv2 hw).1) ((hf.tr a.2).tr hf2))
      have nxt : ∀ (r' : LR) (v' : Int) (J2 : KI), (lsg f n r.2.1 ≠ -1) → r'.2 = (S (r.2.1 + 1) false).2 → MLw g n (S (r.2.1 + 1) false).2.1 (S (r.2.1 + 1) false).2.2 o J2 → ((S (r.2.1 + 1) false).2.2 = false → v' = r'.1) → mpf I J2 → lml f n S k r' = lml f n S 120 (S pl false) → kWP xs true (d) 0 0 173 0 [(0, 19, 0, 101)] [] G J2 (fun r2 G2 I2 => kWP xs true (d + 1) 0 0 180 10 [(0, 19, 0, 101), (1, 0, 0, v'), (2, 0, 0, r2)] [] G2 I2 Q) := fun r' v' J2 hy er hJ2 hv2 hf2 hl2 => by
        have hlt := lsg_lt (f := f) (n := n) (pl := r.2.1) hy
        have hq := hM (r.2.1 + 1) (by omega)
        refine t_M_byteAt hJ2 ?_
        rw [← er] at hJ2 hv2 hq ⊢
        exact ih r' v' J2 (by omega) hJ2 hv2 hf2 hl2
      refine b_M_product_10 ⟨fun hh => by omega, fun _ => ⟨fun m1 => b_M_product_35 (fun J1 e1 => go J1 _ (by omega) e1 (fun v2 J2 hJ2 hv2 hf2 => ⟨fun hh => absurd m1 hh, fun _ => ?_⟩)), fun m1 => ⟨fun m2 => b_M_product_35 (fun J1 e1 => go J1 _ (by omega) e1 (fun v2 J2 hJ2 hv2 hf2 => ⟨fun _ => ⟨fun z => ⟨fun hh => absurd m2 hh, fun _ => ⟨z, ?_⟩⟩, fun z => ?_⟩, fun hh => absurd hh m1⟩)), fun m2 => ⟨fun m3 => ?_, fun m3 => b_M_product_35 (fun J1 e1 => go J1 _ (by omega) e1 (fun v2 J2 hJ2 hv2 hf2 => ⟨fun _ => ⟨fun z => ⟨fun _ => ⟨z, ?_⟩, fun hh => absurd hh m2⟩, fun z => ?_⟩, fun hh => absurd hh m1⟩))⟩⟩⟩⟩
      · have y := (mby_c hfg (by decide) (by decide)).mp m1
        rw [lml, if_neg nw, if_pos y] at hl
        exact nxt (w32 (r.1 * (S (r.2.1 + 1) false).1), (S (r.2.1 + 1) false).2) _ J2 (by omega) rfl hJ2 (fun hw2 => by rw [hvr, hv2 hw2]) hf2 hl
      · have n1 := fun hh => m1 ((mby_c (c := 42) hfg (by decide) (by decide)).mpr hh)
        have y := (mby_c hfg (by decide) (by decide)).mp m2
        rw [lml, if_neg nw, if_neg n1, if_pos y] at hl
        exact nxt (ldv r.1 (S (r.2.1 + 1) false).1, (S (r.2.1 + 1) false).2) _ J2 (by omega) rfl hJ2 (fun hw2 => by show _ = ldv r.1 (S (r.2.1 + 1) false).1; unfold ldv; rw [← hv2 hw2, if_neg z, hvr]) hf2 hl
      · have n1 := fun hh => m1 ((mby_c (c := 42) hfg (by decide) (by decide)).mpr hh)
        have y := (mby_c hfg (by decide) (by decide)).mp m2
        rw [lml, if_neg nw, if_neg n1, if_pos y] at hl
        exact nxt (ldv r.1 (S (r.2.1 + 1) false).1, (S (r.2.1 + 1) false).2) _ J2 (by omega) rfl hJ2 (fun hw2 => by show _ = ldv r.1 (S (r.2.1 + 1) false).1; unfold ldv; rw [← hv2 hw2, if_pos z]) hf2 hl
      · have n1 := fun hh => m1 ((mby_c (c := 42) hfg (by decide) (by decide)).mpr hh)
        have n2 := fun hh => m2 ((mby_c (c := 47) hfg (by decide) (by decide)).mpr hh)
        have n3 := fun hh => m3 ((mby_c (c := 37) hfg (by decide) (by decide)).mpr hh)
        rw [lml_n n1 n2 n3] at hl
        rw [← hl] at h
        exact h v o J (by rw [hw]; exact hJ) (fun _ => ⟨hvr, rfl⟩) hf
      · have n1 := fun hh => m1 ((mby_c (c := 42) hfg (by decide) (by decide)).mpr hh)
        have n2 := fun hh => m2 ((mby_c (c := 47) hfg (by decide) (by decide)).mpr hh)
        have y := (mby_c hfg (by decide) (by decide)).mp m3
        rw [lml, if_neg nw, if_neg n1, if_neg n2, if_pos y] at hl
        exact nxt (llf r.1 (S (r.2.1 + 1) false).1, (S (r.2.1 + 1) false).2) _ J2 (by omega) rfl hJ2 (fun hw2 => by show _ = llf r.1 (S (r.2.1 + 1) false).1; unfold llf; rw [← hv2 hw2, if_neg z, hvr]) hf2 hl
      · have n1 := fun hh => m1 ((mby_c (c := 42) hfg (by decide) (by decide)).mpr hh)
        have n2 := fun hh => m2 ((mby_c (c := 47) hfg (by decide) (by decide)).mpr hh)
        have y := (mby_c hfg (by decide) (by decide)).mp m3
        rw [lml, if_neg nw, if_neg n1, if_neg n2, if_pos y] at hl
        exact nxt (llf r.1 (S (r.2.1 + 1) false).1, (S (r.2.1 + 1) false).2) _ J2 (by omega) rfl hJ2 (fun hw2 => by show _ = llf r.1 (S (r.2.1 + 1) false).1; unfold llf; rw [← hv2 hw2, if_pos z]) hf2 hl
theorem mon_lml {f : Nat → Int} {n : Nat} {S : LSg} (h : Mon n S) : ∀ (k : Nat) (r : LR), r.2.1 ≤ n → r.2.1 ≤ (lml f n S k r).2.1 ∧ (lml f n S k r).2.1 ≤ n
  | 0, r, hr => ⟨Nat.le_refl _, hr⟩
  | k + 1, r, hr => by
    have nx : ∀ v, lsg f n r.2.1 ≠ -1 → r.2.1 ≤ (lml f n S k (v, (S (r.2.1 + 1) false).2)).2.1 ∧ (lml f n S k (v, (S (r.2.1 + 1) false).2)).2.1 ≤ n := fun v hl => by
      have := lsg_lt hl
      have a := h (r.2.1 + 1) (by omega)
      have b := mon_lml (f := f) h k (v, (S (r.2.1 + 1) false).2) a.2
      exact ⟨by have := b.1; simp only at this; omega, b.2⟩
    rw [lml]
    split
    · exact ⟨Nat.le_refl _, hr⟩
    · split
      · exact nx _ (by omega)
      · split
        · exact nx _ (by omega)
        · split
          · exact nx _ (by omega)
          · exact ⟨Nat.le_refl _, hr⟩
theorem mon_lal {f : Nat → Int} {n : Nat} {S : LSg} (h : Mon n S) : ∀ (k : Nat) (r : LR), r.2.1 ≤ n → r.2.1 ≤ (lal f n S k r).2.1 ∧ (lal f n S k r).2.1 ≤ n
  | 0, r, hr => ⟨Nat.le_refl _, hr⟩
  | k + 1, r, hr => by
    have nx : ∀ v, lsg f n r.2.1 ≠ -1 → r.2.1 ≤ (lal f n S k (v, (S (r.2.1 + 1) false).2)).2.1 ∧ (lal f n S k (v, (S (r.2.1 + 1) false).2)).2.1 ≤ n := fun v hl => by
      have := lsg_lt hl
      have a := h (r.2.1 + 1) (by omega)
      have b := mon_lal (f := f) h k (v, (S (r.2.1 + 1) false).2) a.2
      exact ⟨by have := b.1; simp only at this; omega, b.2⟩
    rw [lal]
    split
    · exact ⟨Nat.le_refl _, hr⟩
    · split
      · exact nx _ (by omega)
      · split
        · exact nx _ (by omega)
        · exact ⟨Nat.le_refl _, hr⟩
theorem mon_lbl {f : Nat → Int} {n : Nat} {c : Int} {op : Int → Int → Int} {S : LSg} (hc : c ≠ -1) (h : Mon n S) : ∀ (k : Nat) (r : LR), r.2.1 ≤ n → r.2.1 ≤ (lbl f n c op S k r).2.1 ∧ (lbl f n c op S k r).2.1 ≤ n
  | 0, r, hr => ⟨Nat.le_refl _, hr⟩
  | k + 1, r, hr => by
    rw [lbl]
    split
    · exact ⟨Nat.le_refl _, hr⟩
    · split
      · have := lsg_lt (f := f) (n := n) (pl := r.2.1) (by omega)
        have a := h (r.2.1 + 1) (by omega)
        have b := mon_lbl (f := f) (op := op) hc h k (op r.1 (S (r.2.1 + 1) false).1, (S (r.2.1 + 1) false).2) a.2
        exact ⟨Nat.le_trans (show r.2.1 ≤ (S (r.2.1 + 1) false).2.1 by omega) b.1, b.2⟩
      · exact ⟨Nat.le_refl _, hr⟩
theorem mon_lexp {f : Nat → Int} {n : Nat} {S : LSg} (h : Mon n S) : Mon n (lmul f n S) ∧ Mon n (ladd f n (lmul f n S)) ∧ Mon n (lcmp f n (ladd f n (lmul f n S))) ∧ Mon n (lbth f n (lcmp f n (ladd f n (lmul f n S)))) ∧ Mon n (lexp f n S) := by
  have h1 : Mon n (lmul f n S) := fun pl hpl => by
    have a := h pl hpl
    have b := mon_lml (f := f) h 120 (S pl false) a.2
    exact ⟨Nat.le_trans a.1 b.1, b.2⟩
  have h2 : Mon n (ladd f n (lmul f n S)) := fun pl hpl => by
    have a := h1 pl hpl
    have b := mon_lal (f := f) h1 120 (lmul f n S pl false) a.2
    exact ⟨Nat.le_trans a.1 b.1, b.2⟩
  have h3 : Mon n (lcmp f n (ladd f n (lmul f n S))) := fun pl hpl => by
    have a := h2 pl hpl
    unfold lcmp
    simp only
    have nx : lsg f n (ladd f n (lmul f n S) pl false).2.1 ≠ -1 → pl ≤ (ladd f n (lmul f n S) ((ladd f n (lmul f n S) pl false).2.1 + 1) false).2.1 ∧ (ladd f n (lmul f n S) ((ladd f n (lmul f n S) pl false).2.1 + 1) false).2.1 ≤ n := fun hl => by
      have := lsg_lt hl
      have b := h2 ((ladd f n (lmul f n S) pl false).2.1 + 1) (by omega)
      omega
    split
    · exact a
    · split
      · exact nx (by omega)
      · split
        · exact nx (by omega)
        · split
          · exact nx (by omega)
          · exact a
  have h4 : Mon n (lbth f n (lcmp f n (ladd f n (lmul f n S)))) := fun pl hpl => by
    have a := h3 pl hpl
    have b := mon_lbl (f := f) (c := 38) (op := fun a b => bi (decide (a ≠ 0 ∧ b ≠ 0))) (by decide) h3 120 (lcmp f n (ladd f n (lmul f n S)) pl false) a.2
    exact ⟨Nat.le_trans a.1 b.1, b.2⟩
  exact ⟨h1, h2, h3, h4, fun pl hpl => by
    have a := h4 pl hpl
    have b := mon_lbl (f := f) (c := 124) (op := fun a b => bi (decide (a ≠ 0 ∨ b ≠ 0))) (by decide) h4 120 (lbth f n (lcmp f n (ladd f n (lmul f n S))) pl false) a.2
    exact ⟨Nat.le_trans a.1 b.1, b.2⟩⟩
theorem mon_lnm {f : Nat → Int} {n : Nat} : ∀ (u : Nat) (v : Int) (pl : Nat), pl ≤ n → pl ≤ (lnm f n u v pl).2 ∧ (lnm f n u v pl).2 ≤ n
  | 0, v, pl, h => ⟨Nat.le_refl _, h⟩
  | u + 1, v, pl, h => by
    rw [lnm]
    split
    · rename_i hd
      have := lsg_lt (f := f) (n := n) (pl := pl) (by omega)
      have a := mon_lnm (f := f) (n := n) u (10 * v + lsg f n pl - 48) (pl + 1) (by omega)
      omega
    · exact ⟨Nat.le_refl _, h⟩
theorem mon_lsU {f : Nat → Int} {n : Nat} {e : Int → Int} : ∀ u, Mon n (lsU f n e u)
  | u, pl, hpl => by
    have hn : pl ≤ (lnd f n e pl false).2.1 ∧ (lnd f n e pl false).2.1 ≤ n := by
      have nx : lsg f n pl ≠ -1 → pl ≤ pl + 1 ∧ pl + 1 ≤ n := fun hl => by have := lsg_lt hl; omega
      unfold lnd
      split
      · exact nx (by omega)
      · split
        · exact nx (by omega)
        · split
          · exact nx (by omega)
          · split
            · exact nx (by omega)
            · split
              · exact nx (by omega)
              · exact ⟨Nat.le_refl _, hpl⟩
    match u with
    | 0 =>
      unfold lsU lsn
      split
      · exact mon_lnm 4 0 pl hpl
      · split
        · exact ⟨Nat.le_refl _, hpl⟩
        · exact hn
    | u + 1 =>
      have ih := mon_lsU (f := f) (n := n) (e := e) u
      have ihe := (mon_lexp (f := f) ih).2.2.2.2
      unfold lsU lsn
      split
      · exact mon_lnm 4 0 pl hpl
      · split
        · rename_i hs
          have hl := lsg_lt (f := f) (n := n) (pl := pl) (by omega)
          unfold lopn
          split
          · have := ih (pl + 1) (by omega); simp only; omega
          · split
            · have := ih (pl + 1) (by omega); simp only; omega
            · have a := ihe (pl + 1) (by omega)
              simp only
              split
              · omega
              · split
                · rename_i h41
                  have := lsg_lt (f := f) (n := n) (pl := (lexp f n (lsU f n e u) (pl + 1) false).2.1) (by omega)
                  simp only; omega
                · simp only; omega
        · exact hn
