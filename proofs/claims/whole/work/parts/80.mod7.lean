/-! THE MODEL: the law's text, singles; the whole text -/
theorem nme_ {f : Nat → Int} {n : Nat} {e : Int → Int} {pl : Nat} {w : Bool} {k : Nat} {c : Int} (h : (k = 0 ∧ c = 110) ∨ (k = 1 ∧ c = 98) ∨ (k = 2 ∧ c = 115) ∨ (k = 3 ∧ c = 122) ∨ (k = 4 ∧ c = 109)) (hl : lsg f n pl = c) : lnd f n e pl w = (e (6 + (k : Int)), pl + 1, w) := by
  unfold lnd
  rcases h with ⟨rfl, rfl⟩ | ⟨rfl, rfl⟩ | ⟨rfl, rfl⟩ | ⟨rfl, rfl⟩ | ⟨rfl, rfl⟩
  · rw [if_pos hl]; rfl
  · rw [if_neg (by omega), if_pos hl]; rfl
  · rw [if_neg (by omega), if_neg (by omega), if_pos hl]; rfl
  · rw [if_neg (by omega), if_neg (by omega), if_neg (by omega), if_pos hl]; rfl
  · rw [if_neg (by omega), if_neg (by omega), if_neg (by omega), if_neg (by omega), if_pos hl]; rfl
theorem nmn_ {f : Nat → Int} {n : Nat} {e : Int → Int} {pl : Nat} {w : Bool} (h : lsg f n pl ≠ 110 ∧ lsg f n pl ≠ 98 ∧ lsg f n pl ≠ 115 ∧ lsg f n pl ≠ 122 ∧ lsg f n pl ≠ 109) : lnd f n e pl w = (0, pl, true) := by
  unfold lnd
  rw [if_neg h.1, if_neg h.2.1, if_neg h.2.2.1, if_neg h.2.2.2.1, if_neg h.2.2.2.2]
/-- digits of a number, from a place on -/
theorem one_num {xs : KS} {d : Nat} {f g : Nat → Int} {n pl : Nat} {o : Int} {e : Int → Int} {G : KG} {I : KI} {Q : KQ} {R : LR} (hfg : SgOk f g n) (hR : R = if 48 ≤ lsg f n pl ∧ lsg f n pl ≤ 57 then ((lnm f n 4 0 pl).1, (lnm f n 4 0 pl).2, false) else (0, pl, true)) (hC : MLw g n pl false o I)
    (h : ∀ (v : Int) (o' : Int) (I' : KI), MLw g n R.2.1 R.2.2 o' I' → (R.2.2 = false → v = R.1 ∧ o' = o) → mpf I I' → Q v G I') : kWP xs true (d + 1) 0 0 182 176 [(0, 19, 0, 101), (3, 0, 0, 0), (4, 0, 0, 0)] [] G I Q := by
  by_cases hd : 48 ≤ lsg f n pl ∧ lsg f n pl ≤ 57
  · rw [if_pos hd] at hR
    subst hR
    suffices key : ∀ (u j pl' : Nat) (v : Int) (J : KI), j + u = 4 → (j = 0 → pl' = pl) → 0 ≤ v → v < p10 j → lnm f n u v pl' = lnm f n 4 0 pl → MLw g n pl' false o J → mpf I J → kWP xs true (d + 1) 0 0 182 176 [(0, 19, 0, 101), (3, 0, 0, v), (4, 0, 0, (j : Int))] [] G J Q from key 4 0 pl 0 I rfl (fun _ => rfl) (Int.le_refl 0) (by decide) rfl hC (mpf.rf I)
    intro u
    induction u with
    | zero =>
      intro j pl' v J hj hp h0 h1 hl hJ hf
      rw [← hl] at h
      exact b_M_one_176 ⟨fun _ => ⟨fun _ => h v o J hJ (fun _ => ⟨rfl, rfl⟩) hf, fun h2 => by omega⟩, fun h2 => by omega⟩
    | succ u ih =>
      intro j pl' v J hj hp h0 h1 hl hJ hf
      have h10 := p10_le j (by omega)
      have stop : ¬ (48 ≤ lsg f n pl' ∧ lsg f n pl' ≤ 57) → ((j : Int) ≠ 0 → Q v G J) ∧ ((j : Int) = 0 → kWP xs true (d) 0 0 174 0 [(0, 19, 0, 101)] [] G J (fun r1 G1 I1 => Q r1 G1 I1)) := fun hn => by
        have hj0 : j ≠ 0 := fun e0 => by rw [hp e0] at hn; exact hn hd
        have e1 : lnm f n (u + 1) v pl' = (v, pl') := by rw [lnm, if_neg hn]
        rw [← hl, e1] at h
        exact ⟨fun _ => h v o J hJ (fun _ => ⟨rfl, rfl⟩) hf, fun h2 => by omega⟩
      refine b_M_one_176 ⟨fun h2 => by omega, fun _ => t_M_byteAt hJ ⟨fun h2 => stop (fun hh => by have := (mby_d hfg).mpr hh; omega), fun h2 => t_M_byteAt hJ ⟨fun h3 => stop (fun hh => by have := (mby_d hfg).mpr hh; omega), fun h3 => t_M_byteAt hJ (fun J1 e1 => ?_)⟩⟩⟩
      have hdd := (mby_d hfg).mp ⟨h2, h3⟩
      rw [mby_e hfg hdd]
      have hlt := lsg_lt (f := f) (n := n) (pl := pl') (by omega)
      have a := hJ.go hlt e1
      have e10 : p10 (j + 1) = 10 * p10 j := rfl
      rw [w32_id (x := 10 * v) (by omega) (by omega), w32_id (x := 10 * v + lsg f n pl') (by omega) (by omega), w32_id (x := 10 * v + lsg f n pl' - 48) (by omega) (by omega), w32_inc (by omega)]
      refine ih (j + 1) (pl' + 1) _ J1 (by omega) (by omega) (by omega) (by omega) ?_ a.1 (hf.tr a.2)
      rw [← hl, lnm, if_pos hdd]
  · rw [if_neg hd] at hR
    subst hR
    have hno : ∀ Q' : KQ, (∀ (o' : Int) (I' : KI), MLw g n pl true o' I' → mpf I I' → Q' 0 G I') → ((((0 : Nat) : Int) ≠ 0 → Q' 0 G I) ∧ (((0 : Nat) : Int) = 0 → kWP xs true (d) 0 0 174 0 [(0, 19, 0, 101)] [] G I (fun r1 G1 I1 => Q' r1 G1 I1))) := fun Q' hq => ⟨fun hh => absurd rfl hh, fun _ => t_M_wrong hC hq⟩
    have fin := hno Q (fun o' I' h1 h2 => h 0 o' I' h1 (fun hh => by cases hh) h2)
    refine b_M_one_176 ⟨fun h2 => absurd h2 (by decide), fun _ => t_M_byteAt hC ⟨fun h2 => fin, fun h2 => t_M_byteAt hC ⟨fun h3 => fin, fun h3 => ?_⟩⟩⟩
    exact absurd ((mby_d hfg).mp ⟨h2, h3⟩) hd
theorem lsn_eq {f : Nat → Int} {n : Nat} {e : Int → Int} {O : LSg} {pl : Nat} {w : Bool} (h : ¬ (lsg f n pl = 40 ∨ lsg f n pl = 33 ∨ lsg f n pl = 45)) (hn : lsg f n pl ≠ 110 ∧ lsg f n pl ≠ 98 ∧ lsg f n pl ≠ 115 ∧ lsg f n pl ≠ 122 ∧ lsg f n pl ≠ 109) : lsn f n e O pl w = if 48 ≤ lsg f n pl ∧ lsg f n pl ≤ 57 then ((lnm f n 4 0 pl).1, (lnm f n 4 0 pl).2, w) else (0, pl, true) := by
  unfold lsn
  by_cases hd : 48 ≤ lsg f n pl ∧ lsg f n pl ≤ 57
  · rw [if_pos hd, if_pos hd]
  · rw [if_neg hd, if_neg h, if_neg hd, nmn_ hn]
/-- a single: what is opened answers as O does -/
theorem mlv_one {xs : KS} {d : Nat} {f g : Nat → Int} {n : Nat} {e : Int → Int} {o : Int} {O : LSg} (hfg : SgOk f g n)
    (hO : ∀ (pl : Nat) (G : KG) (I : KI) (Q : KQ), (lsg f n pl = 40 ∨ lsg f n pl = 33 ∨ lsg f n pl = 45) → MLw g n pl false o I → (∀ k : Nat, k < 5 → I 118 (k : Int) = e (6 + k)) → (∀ (v : Int) (o' : Int) (I' : KI), MLw g n (O pl false).2.1 (O pl false).2.2 o' I' → ((O pl false).2.2 = false → v = (O pl false).1 ∧ o' = o) → mpf I I' → Q v G I') → kWP xs true (d + 1) 0 0 182 32 [(0, 19, 0, 101), (1, 0, 0, mby g n pl)] [] G I Q) : MLv 182 xs (d + 1) g n e o (lsn f n e O) := by
  intro pl G I Q hC he h
  have h23 := (hC.2.2.2.1 rfl).1
  have opn : (lsg f n pl = 40 ∨ lsg f n pl = 33 ∨ lsg f n pl = 45) → kWP xs true (d + 1) 0 0 182 32 [(0, 19, 0, 101), (1, 0, 0, mby g n pl)] [] G I Q := fun hs => by
    have e1 : lsn f n e O pl false = O pl false := by unfold lsn; rw [if_neg (by omega), if_pos hs]
    rw [e1] at h
    exact hO pl G I Q hs hC he h
  refine b_M_one_0 ⟨fun _ => t_M_byteAt hC ⟨fun m1 => opn (Or.inr (Or.inl ((mby_c hfg (by decide) (by decide)).mp m1))), fun m1 => ⟨fun m2 => opn (Or.inr (Or.inr ((mby_c hfg (by decide) (by decide)).mp m2))), fun m2 => ⟨fun m3 => ?_, fun m3 => opn (Or.inl ((mby_c hfg (by decide) (by decide)).mp m3))⟩⟩⟩, fun hh => by omega⟩
  have hns : ¬ (lsg f n pl = 40 ∨ lsg f n pl = 33 ∨ lsg f n pl = 45) := by
    rintro (hh | hh | hh)
    · exact m3 ((mby_c hfg (by decide) (by decide)).mpr hh)
    · exact m1 ((mby_c hfg (by decide) (by decide)).mpr hh)
    · exact m2 ((mby_c hfg (by decide) (by decide)).mpr hh)
  have named : ∀ (k : Nat) (c : Int) (J1 : KI), ((k = 0 ∧ c = 110) ∨ (k = 1 ∧ c = 98) ∨ (k = 2 ∧ c = 115) ∨ (k = 3 ∧ c = 122) ∨ (k = 4 ∧ c = 109)) → mby g n pl = c → J1 = kst I 101 21 (w32 (I 101 21 + 1)) → (0 ≤ (k : Int) ∧ (k : Int) < 5) ∧ Q (J1 118 (k : Int)) G J1 := fun k c J1 hk hm e1 => by
    have y := (mby_c hfg (by omega) (by omega)).mp hm
    have e2 : lsn f n e O pl false = (e (6 + (k : Int)), pl + 1, false) := by
      unfold lsn
      rw [if_neg (by omega), if_neg hns, nme_ hk y]
    rw [e2] at h
    have a := hC.go (mby_lt hm (by omega)) e1
    refine ⟨by omega, ?_⟩
    rw [a.2 118 _ (by omega), he k (by omega)]
    exact h _ o J1 a.1 (fun _ => ⟨rfl, rfl⟩) a.2
  refine b_M_nameOf_0 ⟨fun m4 => ⟨fun hh => absurd hh (by decide), fun _ J1 e1 => named 1 98 J1 (by omega) m4 e1⟩, fun m4 => ⟨fun m5 => ⟨fun hh => absurd hh (by decide), fun _ J1 e1 => named 4 109 J1 (by omega) m5 e1⟩, fun m5 => ⟨fun m6 => ⟨fun hh => absurd hh (by decide), fun _ J1 e1 => named 0 110 J1 (by omega) m6 e1⟩, fun m6 => ⟨fun m7 => ⟨fun hh => absurd hh (by decide), fun _ J1 e1 => named 2 115 J1 (by omega) m7 e1⟩, fun m7 => ⟨fun m8 => ⟨fun hh => absurd hh (by decide), fun _ J1 e1 => named 3 122 J1 (by omega) m8 e1⟩, fun m8 => ⟨fun _ => ?_, fun hh => absurd hh (by decide)⟩⟩⟩⟩⟩⟩
  refine one_num (e := e) hfg (lsn_eq hns ⟨fun hh => m6 ((mby_c hfg (by decide) (by decide)).mpr hh), fun hh => m4 ((mby_c hfg (by decide) (by decide)).mpr hh), fun hh => m7 ((mby_c hfg (by decide) (by decide)).mpr hh), fun hh => m8 ((mby_c hfg (by decide) (by decide)).mpr hh), fun hh => m5 ((mby_c hfg (by decide) (by decide)).mpr hh)⟩) hC h
/-- nothing more may be open -/
theorem mlo_0 {xs : KS} {d : Nat} {f g : Nat → Int} {n : Nat} {o : Int} {e : Int → Int} (ho : o = 6) : ∀ (pl : Nat) (G : KG) (I : KI) (Q : KQ), (lsg f n pl = 40 ∨ lsg f n pl = 33 ∨ lsg f n pl = 45) → MLw g n pl false o I → (∀ k : Nat, k < 5 → I 118 (k : Int) = e (6 + k)) → (∀ (v : Int) (o' : Int) (I' : KI), MLw g n (lop0 pl false).2.1 (lop0 pl false).2.2 o' I' → ((lop0 pl false).2.2 = false → v = (lop0 pl false).1 ∧ o' = o) → mpf I I' → Q v G I') → kWP xs true (d + 1) 0 0 182 32 [(0, 19, 0, 101), (1, 0, 0, mby g n pl)] [] G I Q := by
  intro pl G I Q _ hC he h
  refine b_M_one_32 ?_
  rw [(hC.2.2.2.1 rfl).2]
  exact ⟨fun hh => absurd ho hh, fun _ => t_M_wrong hC (fun o' I' h1 h2 => h 0 o' I' h1 (fun hh => by cases hh) h2)⟩
theorem MLw.cl {g : Nat → Int} {n pl : Nat} {o : Int} {I J : KI} (hC : MLw g n pl false (o + 1) I) (ho : 0 ≤ o ∧ o < 6) (e : J = kst I 101 24 (w32 (I 101 24 - 1))) : MLw g n pl false o J ∧ mpf I J := by
  have hf : mpf I J := fun a k hk => by rw [e, kst_n (by omega)]
  obtain ⟨h1, h4, h5, h6, h7⟩ := hC
  rw [(h6 rfl).2, w32_id (by omega) (by omega), show o + 1 - 1 = o by omega] at e
  exact ⟨⟨h1.fr hf, by rw [e, kst_n (by omega)]; exact h4, h5, fun _ => ⟨by rw [e, kst_n (by omega)]; exact (h6 rfl).1, by rw [e, kst_s]⟩, fun hh => by cases hh⟩, hf⟩
theorem MLw.any {g : Nat → Int} {n pl : Nat} {o : Int} {I J : KI} (o' : Int) (hC : MLw g n pl true o I) (e : ∀ a k, ¬ (a = 101 ∧ k = 24) → J a k = I a k) : MLw g n pl true o' J ∧ mpf I J := by
  have hf : mpf I J := fun a k hk => e a k (by omega)
  obtain ⟨h1, h4, h5, h6, h7⟩ := hC
  exact ⟨⟨h1.fr hf, by rw [e _ _ (by omega)]; exact h4, h5, fun hh => (by cases hh), fun _ => by rw [e _ _ (by omega)]; exact h7 rfl⟩, hf⟩
theorem mlo_s {xs : KS} {d : Nat} {f g : Nat → Int} {n : Nat} {o : Int} {e : Int → Int} {E S : LSg} (hfg : SgOk f g n) (ho : 0 ≤ o ∧ o < 6) (hE : MLv 176 xs (d + 1) g n e (o + 1) E) (hS : MLv 182 xs (d + 1) g n e (o + 1) S) :
    ∀ (pl : Nat) (G : KG) (I : KI) (Q : KQ), (lsg f n pl = 40 ∨ lsg f n pl = 33 ∨ lsg f n pl = 45) → MLw g n pl false o I → (∀ k : Nat, k < 5 → I 118 (k : Int) = e (6 + k)) → (∀ (v : Int) (o' : Int) (I' : KI), MLw g n (lopn f n E S pl false).2.1 (lopn f n E S pl false).2.2 o' I' → ((lopn f n E S pl false).2.2 = false → v = (lopn f n E S pl false).1 ∧ o' = o) → mpf I I' → Q v G I') → kWP xs true (d + 2) 0 0 182 32 [(0, 19, 0, 101), (1, 0, 0, mby g n pl)] [] G I Q := by
  intro pl G I Q hs hC he h
  have hm : mby g n pl ≠ 0 := by
    rcases hs with hh | hh | hh
    · rw [(mby_c hfg (by decide) (by decide)).mpr hh]; decide
    · rw [(mby_c hfg (by decide) (by decide)).mpr hh]; decide
    · rw [(mby_c hfg (by decide) (by decide)).mpr hh]; decide
  have hlt := mby_lt rfl hm
  have c40 := mby_c (c := 40) (pl := pl) hfg (by decide) (by decide)
  have c45 := mby_c (c := 45) (pl := pl) hfg (by decide) (by decide)
  have c33 := mby_c (c := 33) (pl := pl) hfg (by decide) (by decide)
  refine b_M_one_32 ⟨fun _ J1 e1 J2 e2 => ?_, fun hh => by rw [(hC.2.2.2.1 rfl).2] at hh; omega⟩
  rw [(hC.2.2.2.1 rfl).2, w32_id (by omega) (by omega)] at e1
  have hC1 : MLw g n pl false (o + 1) J1 ∧ mpf I J1 := by
    have hf : mpf I J1 := fun a k hk => by rw [e1, kst_n (by omega)]
    obtain ⟨h1, h4, h5, h6, h7⟩ := hC
    exact ⟨⟨h1.fr hf, by rw [e1, kst_n (by omega)]; exact h4, h5, fun _ => ⟨by rw [e1, kst_n (by omega)]; exact (h6 rfl).1, by rw [e1, kst_s]⟩, fun hh => by cases hh⟩, hf⟩
  have a := hC1.1.go hlt e2
  have hf2 := hC1.2.tr a.2
  unfold lopn at h
  refine ⟨fun n40 => hS _ G J2 _ a.1 (hf2.nm he) (fun v o1 J hJ hv hf => ⟨fun _ J3 e3 => ?_, fun hh => absurd hh n40⟩), fun y40 => hE _ G J2 _ a.1 (hf2.nm he) (fun v o1 J hJ hv hf => ⟨fun hh => absurd y40 hh, fun _ => ?_⟩)⟩
  · have l40 : lsg f n pl ≠ 40 := fun hh => n40 (c40.mpr hh)
    have hf3 := hf2.tr hf
    cases hw : (S (pl + 1) false).2.2 with
    | true =>
      rw [hw] at hJ
      have b := hJ.any (J := J3) o (fun a k hk => by rw [e3, kst_n (by omega)])
      have hf4 := hf3.tr b.2
      have anyv : ∀ v : Int, (lsg f n pl = 33 ∨ lsg f n pl = 45) → Q v G J3 := fun v hs2 => by
        rcases hs2 with l33 | l45
        · rw [if_pos l33] at h
          simp only at h
          rw [hw] at h
          exact h v o J3 b.1 (fun hh => by cases hh) hf4
        · rw [if_neg (by omega), if_pos l45] at h
          simp only at h
          rw [hw] at h
          exact h v o J3 b.1 (fun hh => by cases hh) hf4
      have hs2 : lsg f n pl = 33 ∨ lsg f n pl = 45 := by omega
      exact ⟨fun _ => ⟨fun _ => ⟨fun _ => anyv 0 hs2, fun _ => anyv 1 hs2⟩, fun _ => anyv _ hs2⟩, fun _ => anyv _ hs2⟩
    | false =>
      obtain ⟨hv1, ho1⟩ := hv hw
      rw [hw] at hJ
      have b := (hJ.o (fun _ => ho1)).cl ho e3
      have hf4 := hf3.tr b.2
      refine ⟨fun _ => ⟨fun n45 => ?_, fun y45 => ?_⟩, fun hh => absurd hh n40⟩
      · have l33 : lsg f n pl = 33 := by
          rcases hs with hh | hh | hh
          · exact absurd hh l40
          · exact hh
          · exact absurd (c45.mpr hh) n45
        rw [if_pos l33] at h
        simp only at h
        rw [hw] at h
        refine ⟨fun z => h 0 o J3 b.1 (fun _ => ⟨?_, rfl⟩) hf4, fun z => h 1 o J3 b.1 (fun _ => ⟨?_, rfl⟩) hf4⟩
        · rw [decide_eq_false (by rw [← hv1]; exact z)]; rfl
        · rw [decide_eq_true (by rw [← hv1]; exact z)]; rfl
      · have l45 := c45.mp y45
        rw [if_neg (by omega), if_pos l45] at h
        simp only at h
        rw [hw] at h
        exact h _ o J3 b.1 (fun _ => ⟨by rw [hv1], rfl⟩) hf4
  · have l40 := c40.mp y40
    have hf3 := hf2.tr hf
    rw [if_neg (by omega), if_neg (by omega)] at h
    simp only at h
    cases hw : (E (pl + 1) false).2.2 with
    | true =>
      rw [if_pos hw, hw] at h
      rw [hw] at hJ
      refine t_M_takes (by decide) hJ (fun _ => ⟨fun hh => absurd rfl hh, fun _ => ?_⟩) (fun J1 hh _ _ _ => by cases hh)
      refine b_M_wrong_0 ?_
      have h23 := hJ.2.2.2.2 rfl
      rw [h23]
      refine ⟨fun _ J3 e3 => ?_, fun hh => by omega⟩
      have e4 : ∀ a k, J3 a k = J a k := fun a k => by
        rw [e3]; unfold kst
        split
        · rename_i hh; rw [hh.1, hh.2, h23]
        · rfl
      have b := hJ.any (J := J3) o (fun a k _ => e4 a k)
      exact h 0 o J3 b.1 (fun hh => by cases hh) (hf3.tr b.2)
    | false =>
      obtain ⟨hv1, ho1⟩ := hv hw
      have nw : ¬ (E (pl + 1) false).2.2 = true := by rw [hw]; simp
      rw [hw] at hJ
      have hJo := hJ.o (fun _ => ho1)
      refine t_M_takes (by decide) hJo (fun hn => ⟨fun hh => absurd rfl hh, fun _ => t_M_wrong hJo (fun o' J4 hJ4 hf4 => ?_)⟩) (fun J4 _ m41 hJ4 hf4 => ⟨fun _ J5 e5 => ?_, fun hh => absurd hh (by decide)⟩)
      · have n41 : lsg f n (E (pl + 1) false).2.1 ≠ 41 := fun hh => by
          rcases hn with hn | hn
          · cases hn
          · exact hn ((mby_c hfg (by decide) (by decide)).mpr hh)
        rw [if_neg nw, if_neg n41] at h
        exact h 0 o' J4 hJ4 (fun hh => by cases hh) (hf3.tr hf4)
      · have y41 := (mby_c hfg (by decide) (by decide)).mp m41
        rw [if_neg nw, if_pos y41] at h
        have b := hJ4.cl ho e5
        exact ⟨fun hh => absurd y40 hh, fun _ => h _ o J5 b.1 (fun _ => ⟨hv1, rfl⟩) ((hf3.tr hf4).tr b.2)⟩
theorem MLv.wk {j : Nat} {xs : KS} {d d' : Nat} {g : Nat → Int} {n : Nat} {e : Int → Int} {o : Int} {S : LSg} (h : MLv j xs d g n e o S) (hd : d = d') : MLv j xs d' g n e o S := by subst hd; exact h
theorem mlv_exp {xs : KS} {d : Nat} {f g : Nat → Int} {n : Nat} {e : Int → Int} {o : Int} {S : LSg} (hfg : SgOk f g n) (hM : Mon n S) (hS : MLv 182 xs d g n e o S) : MLv 176 xs (d + 5) g n e o (lexp f n S) := by
  obtain ⟨m1, m2, m3, m4, m5⟩ := mon_lexp (f := f) hM
  exact mlv_either (d := d + 3) hfg m4 (mlv_both (d := d + 2) hfg m3 (mlv_compared (d := d + 2) hfg m2 (mlv_sums (d := d + 1) hfg m1 (mlv_product (d := d) hfg hM hS))))
theorem mlv_U {xs : KS} {f g : Nat → Int} {n : Nat} {e : Int → Int} (hfg : SgOk f g n) : ∀ (u : Nat), u ≤ 6 → ∀ d, MLv 182 xs (d + (6 * u + 1)) g n e (6 - u : Int) (lsU f n e u)
  | 0, _, d => mlv_one (d := d) hfg (mlo_0 (d := d) (by omega))
  | u + 1, hu, d => by
    have ih := mlv_U (xs := xs) (e := e) hfg u (by omega)
    have hM := mon_lsU (f := f) (n := n) (e := e) u
    have hE := mlv_exp hfg hM (ih d)
    have hS := ih (d + 5)
    have ho : ((6 : Int) - ((u + 1 : Nat) : Int)) + 1 = 6 - (u : Int) := by omega
    have h1 := mlo_s (xs := xs) (d := d + 6 * u + 5) (f := f) (g := g) (n := n) (e := e) (o := (6 : Int) - ((u + 1 : Nat) : Int)) (E := lexp f n (lsU f n e u)) (S := lsU f n e u) hfg (by omega) (by rw [ho]; exact hE.wk (by omega)) (by rw [ho]; exact hS.wk (by omega))
    exact (mlv_one (d := d + 6 * u + 6) hfg h1).wk (by omega)
theorem mlv_E {xs : KS} {f g : Nat → Int} {n : Nat} {e : Int → Int} (hfg : SgOk f g n) (d : Nat) : MLv 176 xs (d + 42) g n e 0 (lE f n e) := (mlv_exp hfg (mon_lsU 6) (mlv_U hfg 6 (by omega) d)).wk (by omega)
