/-! THE SHAKER: all shakes -/
theorem w32_inc {k : Nat} (h : k < 1000000000) : w32 ((k : Int) + 1) = ((k + 1 : Nat) : Int) := by rw [w32_id (by omega) (by omega)]; omega
def zit : Nat → Int → Int
  | 0, z => z
  | k + 1, z => zn (zit k z)
def lenv (len box st dr m : Int) : Int → Int := fun k => if k = 6 then len else if k = 7 then box else if k = 8 then st else if k = 9 then dr else m
def ltN (f : Nat → Int) (n : Nat) (e : Int → Int) : Nat := if n = 0 then 0 else (clp (wor f n e).1).toNat
theorem clp_b (v : Int) : 0 ≤ clp v ∧ clp v ≤ 6 := by unfold clp; split <;> (try split) <;> omega
theorem ltN_le (f : Nat → Int) (n : Nat) (e : Int → Int) : ltN f n e ≤ 6 := by
  unfold ltN; split
  · omega
  · have := clp_b (wor f n e).1; omega
def wdz (z1 : Int) (m : Nat) : Nat → Nat := fun k => (drw (zit (k + 1) z1) ((2 * m - 2 : Nat) : Int)).toNat
/-- after so many shakes: the seed, how many knotted, several -/
def shk (xs : KS) (f : Nat → Int) (n : Nat) (len box st : Int) (m : Nat) (z : Int) : Nat → Int × Nat × Nat
  | 0 => (z, 0, 0)
  | t + 1 =>
    let S := shk xs f n len box st m z t
    let z1 := zn S.1
    let L := ltN f n (lenv len box st (drw z1 100) m)
    let o := out xs (wdz z1 m) L m
    (zit L z1, S.2.1 + (if o = 2 then 1 else 0), S.2.2 + (if o = 0 then 1 else 0))
theorem shk_le {xs : KS} {f : Nat → Int} {n m : Nat} {len box st z : Int} : ∀ t, (shk xs f n len box st m z t).2.1 ≤ t ∧ (shk xs f n len box st m z t).2.2 ≤ t
  | 0 => ⟨Nat.le_refl 0, Nat.le_refl 0⟩
  | t + 1 => by
    have ih := shk_le (xs := xs) (f := f) (n := n) (m := m) (len := len) (box := box) (st := st) (z := z) t
    unfold shk
    simp only
    constructor <;> split <;> omega
def shf (I I' : KI) : Prop := ∀ a k, ¬ (20 ≤ a ∧ a < 35) → I' a k = I a k
theorem shf.tr {I J K : KI} (h : shf I J) (g : shf J K) : shf I K := fun a k h1 => (g a k h1).trans (h a k h1)
theorem kfr.shf {I J : KI} {lo hi : Int} (h : kfr lo hi I J) (h1 : 20 ≤ lo) (h2 : hi ≤ 35) : shf I J := fun a k n => h a k (by omega)
theorem CTxt.fr {f : Nat → Int} {n : Nat} {I J : KI} (h : CTxt f n I) (h1 : J 21 1 = I 21 1) (h2 : ∀ k, J 22 k = I 22 k) : CTxt f n J := ⟨by rw [h1]; exact h.1, h.2.1, fun k hk => by rw [h2]; exact h.2.2 k hk⟩
theorem kst_shf {I J : KI} {a k v : Int} (h1 : 20 ≤ a) (h2 : a < 35) (e : J = kst I a k v) : shf I J := fun b i n => by rw [e, kst_a (by omega)]
/-- what a shake sees: the text, what is known, five names -/
def CSk (xs : KS) (f : Nat → Int) (n : Nat) (len box st : Int) (m : Nat) (I : KI) : Prop := CTxt f n I ∧ CKnw xs I ∧ I 21 6 = len ∧ I 21 7 = box ∧ I 21 8 = st ∧ I 21 10 = (m : Int)
theorem CSk.fr {xs : KS} {f : Nat → Int} {n m : Nat} {len box st : Int} {I J : KI} (h : CSk xs f n len box st m I) (h1 : ∀ k, ¬ (k = 3 ∨ k = 4 ∨ k = 5 ∨ k = 9) → J 21 k = I 21 k) (h2 : ∀ k, J 22 k = I 22 k) (h3 : ∀ k, J 34 k = I 34 k) : CSk xs f n len box st m J := by
  obtain ⟨a, b, c, e, g, i⟩ := h
  exact ⟨a.fr (h1 _ (by omega)) h2, b.fr h3, by rw [h1 _ (by omega)]; exact c, by rw [h1 _ (by omega)]; exact e, by rw [h1 _ (by omega)]; exact g, by rw [h1 _ (by omega)]; exact i⟩
theorem shake_in {xs : KS} {d n m T i : Nat} {f : Nat → Int} {len box st z : Int} {G : KG} {I J : KI} {Q : KQ} (hx : (xs 0).1 = 64) (hcl : ClOk) (hm2 : 2 ≤ m) (hm : m ≤ 4) (hT : T ≤ 50) (hi : i < T) (h0 : CSk xs f n len box st m J) (hf : shf I J)
    (hz : J 20 5 = (shk xs f n len box st m z i).1) (hk : J 20 6 = ((shk xs f n len box st m z i).2.1 : Int)) (hs : J 20 7 = ((shk xs f n len box st m z i).2.2 : Int))
    (ih : ∀ (G : KG) (J : KI), CSk xs f n len box st m J → shf I J → J 20 5 = (shk xs f n len box st m z (i + 1)).1 → J 20 6 = ((shk xs f n len box st m z (i + 1)).2.1 : Int) → J 20 7 = ((shk xs f n len box st m z (i + 1)).2.2 : Int) → kWP xs true (d + 53) 0 0 65 63 [(0, 14, 0, 20), (1, 0, 0, (T : Int)), (6, 0, 0, (m : Int)), (7, 0, 0, ((i + 1 : Nat) : Int))] [] G J Q) :
    kWP xs true (d + 53) 0 0 65 63 [(0, 14, 0, 20), (1, 0, 0, (T : Int)), (6, 0, 0, (m : Int)), (7, 0, 0, (i : Int))] [] G J Q := by
  have hle := shk_le (xs := xs) (f := f) (n := n) (m := m) (len := len) (box := box) (st := st) (z := z) i
  unfold shk at ih
  simp only at ih
  generalize shk xs f n len box st m z i = S at ih hle hz hk hs
  obtain ⟨z1, hz1⟩ : ∃ z1, [z1] = [zn S.1] := ⟨_, rfl⟩
  have hz1' := (List.cons.inj hz1).1
  obtain ⟨L, hL⟩ : ∃ L, [L] = [ltN f n (lenv len box st (drw z1 100) m)] := ⟨_, rfl⟩
  have hL' := (List.cons.inj hL).1
  rw [← hz1', ← hL'] at ih
  clear hz1'
  have hL6 : L ≤ 6 := by rw [hL']; exact ltN_le _ _ _
  clear hL'
  have hwz : ∀ k, ∃ r : Nat, drw (zit (k + 1) z1) ((2 * m - 2 : Nat) : Int) = (r : Int) ∧ r < 2 * m - 2 := fun k => drw_lt _ (by omega) (by omega)
  have hwlt : ∀ k, wdz z1 m k < 2 * m - 2 := fun k => by
    obtain ⟨r, e, hr⟩ := hwz k
    unfold wdz; rw [e]; exact hr
  have hweq : ∀ k, drw (zit (k + 1) z1) ((2 * m - 2 : Nat) : Int) = (wdz z1 m k : Int) := fun k => by
    obtain ⟨r, e, hr⟩ := hwz k
    unfold wdz; rw [e]; rfl
  -- the letters drawn; then what comes of them
  have inner : ∀ (u k : Nat) (G : KG) (J : KI), k + u = L → CSk xs f n len box st m J → shf I J → J 20 5 = zit k z1 → J 20 6 = (S.2.1 : Int) → J 20 7 = (S.2.2 : Int) → (∀ j : Nat, j < k → J 33 (j : Int) = (wdz z1 m j : Int)) →
      kWP xs true (d + 53) 0 0 65 94 [(0, 14, 0, 20), (1, 0, 0, (T : Int)), (6, 0, 0, (m : Int)), (7, 0, 0, (i : Int)), (8, 0, 0, (L : Int)), (9, 0, 0, (k : Int))] [] G J Q := by
    intro u
    induction u with
    | zero =>
      intro k G J hku hC hf hz hk hs hw
      have hkL : k = L := by omega
      subst hkL
      refine b_Shaker_shakeAll_94 ⟨fun _ => t_Shaker_outcome (ws := wdz z1 m) hx hcl (fun j hj => ⟨hw j hj, hwlt j⟩) hL6 hm2 hm hC.2.1 (fun J1 hK1 hf1 => ?_), fun hh => by omega⟩
      rw [w32_inc (k := i) (by omega)]
      have f20 : ∀ k, J1 20 k = J 20 k := fun k => hf1 _ _ (by omega)
      have hC1 : CSk xs f n len box st m J1 := by
        obtain ⟨a, b, c, e, g, i⟩ := hC
        exact ⟨a.fr (hf1 _ _ (by omega)) (fun k => hf1 _ _ (by omega)), hK1, by rw [hf1 _ _ (by omega)]; exact c, by rw [hf1 _ _ (by omega)]; exact e, by rw [hf1 _ _ (by omega)]; exact g, by rw [hf1 _ _ (by omega)]; exact i⟩
      have hfr := hf.tr (hf1.shf (by omega) (by omega))
      have ho := out_lt (xs := xs) (ws := wdz z1 m) (n := k) (m := m)
      refine ⟨fun o2 => ⟨fun o0 => ?_, fun o0 J2 e2 => ?_⟩, fun o2 J2 e2 => ⟨fun o0 => ?_, fun o0 => by omega⟩⟩
      · have ih := ih G J1 hC1 hfr (by rw [f20]; exact hz)
        rw [if_neg (by omega), if_neg (by omega)] at ih
        exact ih (by rw [f20]; exact hk) (by rw [f20]; exact hs)
      · have ih := ih G J2 (hC1.fr (fun k _ => by rw [e2, kst_a (by omega)]) (fun k => by rw [e2, kst_a (by omega)]) (fun k => by rw [e2, kst_a (by omega)])) (hfr.tr (kst_shf (by omega) (by omega) e2)) (by rw [e2, kst_k (by omega), f20]; exact hz)
        rw [if_neg (by omega), if_pos (by omega)] at ih
        refine ih (by rw [e2, kst_k (by omega), f20]; exact hk) ?_
        rw [e2, kst_s, f20, hs, w32_inc (by omega)]
      · have ih := ih G J2 (hC1.fr (fun k _ => by rw [e2, kst_a (by omega)]) (fun k => by rw [e2, kst_a (by omega)]) (fun k => by rw [e2, kst_a (by omega)])) (hfr.tr (kst_shf (by omega) (by omega) e2)) (by rw [e2, kst_k (by omega), f20]; exact hz)
        rw [if_pos (by omega), if_neg (by omega)] at ih
        refine ih ?_ (by rw [e2, kst_k (by omega), f20]; exact hs)
        rw [e2, kst_s, f20, hk, w32_inc (by omega)]
    | succ u ihu =>
      intro k G J hku hC hf hz hk hs hw
      refine b_Shaker_shakeAll_94 ⟨fun hh => by omega, fun _ => ⟨fun hh => by omega, fun _ => ?_⟩⟩
      rw [w32_id (x := 2 * (m : Int)) (by omega) (by omega), w32_id (x := 2 * (m : Int) - 2) (by omega) (by omega), show (2 : Int) * (m : Int) - 2 = ((2 * m - 2 : Nat) : Int) by omega]
      refine t_Shaker_draw (by omega) (fun J1 e2 => ⟨by omega, fun J2 e3 => ?_⟩)
      rw [w32_id (x := (k : Int) + 1) (by omega) (by omega)]
      rw [hz] at e2 e3
      rw [show zn (zit k z1) = zit (k + 1) z1 from rfl] at e2 e3
      rw [hweq k] at e3
      refine ihu (k + 1) G J2 (by omega) (hC.fr (fun k _ => by rw [e3, kst_a (by omega), e2, kst_a (by omega)]) (fun k => by rw [e3, kst_a (by omega), e2, kst_a (by omega)]) (fun k => by rw [e3, kst_a (by omega), e2, kst_a (by omega)])) ((hf.tr (kst_shf (by omega) (by omega) e2)).tr (kst_shf (by omega) (by omega) e3)) ?_ ?_ ?_ (fun j hj => ?_)
      · rw [e3, kst_a (by omega), e2, kst_s]
      · rw [e3, kst_a (by omega), e2, kst_k (by omega)]; exact hk
      · rw [e3, kst_a (by omega), e2, kst_k (by omega)]; exact hs
      · rw [e3]
        by_cases hj2 : j = k
        · rw [hj2, kst_s]
        · rw [kst_k (by omega), e2, kst_a (by omega)]; exact hw j (by omega)
  refine b_Shaker_shakeAll_63 ⟨fun hh => by omega, fun _ => t_Shaker_draw (b := 100) (by omega) (fun J1 e2 J2 e3 => ?_)⟩
  rw [hz, ← (List.cons.inj hz1).1] at e2 e3
  have hC2 : CSk xs f n len box st m J2 := h0.fr (fun k hk => by rw [e3, kst_n (by omega), e2, kst_a (by omega)]) (fun k => by rw [e3, kst_a (by omega), e2, kst_a (by omega)]) (fun k => by rw [e3, kst_a (by omega), e2, kst_a (by omega)])
  have hf2 : shf I J2 := (hf.tr (kst_shf (by omega) (by omega) e2)).tr (kst_shf (by omega) (by omega) e3)
  have z2 : J2 20 5 = zit 0 z1 := by rw [e3, kst_a (by omega), e2, kst_s]; rfl
  have k2 : J2 20 6 = (S.2.1 : Int) := by rw [e3, kst_a (by omega), e2, kst_k (by omega)]; exact hk
  have s2 : J2 20 7 = (S.2.2 : Int) := by rw [e3, kst_a (by omega), e2, kst_k (by omega)]; exact hs
  have he : ∀ k : Int, 6 ≤ k → k ≤ 10 → J2 21 k = lenv len box st (drw z1 100) m k := by
    intro k h6 h10
    obtain ⟨_, _, c6, c7, c8, c10⟩ := hC2
    unfold lenv
    rcases (show k = 6 ∨ k = 7 ∨ k = 8 ∨ k = 9 ∨ k = 10 by omega) with rfl | rfl | rfl | rfl | rfl
    · exact c6
    · exact c7
    · exact c8
    · rw [e3, kst_s]; rfl
    · exact c10
  refine t_Law_letters (d := d) hC2.1 he (fun hn0 => ?_) (fun hn0 J3 hf3 => ?_)
  · have hL0 : L = 0 := by rw [(List.cons.inj hL).1]; unfold ltN; rw [if_pos hn0]
    have := inner L 0 G J2 (by omega) hC2 hf2 z2 k2 s2 (fun j hj => absurd hj (Nat.not_lt_zero j))
    rw [hL0] at this; exact this
  · have hL1 : (L : Int) = clp (wor f n (lenv len box st (drw z1 100) m)).1 := by
      rw [(List.cons.inj hL).1]; unfold ltN; rw [if_neg hn0]
      exact Int.toNat_of_nonneg (clp_b _).1
    rw [← hL1]
    refine inner L 0 (kGr G 21 2 22) J3 (by omega) (hC2.fr (fun k hk => hf3 _ _ (by omega)) (fun k => hf3 _ _ (by omega)) (fun k => hf3 _ _ (by omega))) (hf2.tr (fun a k hk => hf3 a k (by omega))) ?_ ?_ ?_ (fun j hj => absurd hj (Nat.not_lt_zero j))
    · rw [hf3 _ _ (by omega)]; exact z2
    · rw [hf3 _ _ (by omega)]; exact k2
    · rw [hf3 _ _ (by omega)]; exact s2
theorem t_Shaker_shakeAll {xs : KS} {d n m T : Nat} {f : Nat → Int} {len box sm z : Int} {G : KG} {I : KI} {Q : KQ} (hx : (xs 0).1 = 64) (hcl : ClOk) (hT : CTxt f n I) (hK : CKnw xs I) (hsm : kirem sm 10 = (m : Int)) (hm2 : 2 ≤ m) (hm : m ≤ 4) (hT50 : T ≤ 50)
    (h : ∀ (G' : KG) (I' : KI), CTxt f n I' → CKnw xs I' → shf I I' → I' 20 6 = ((shk xs f n len box (kidiv sm 10) m z T).2.1 : Int) → I' 20 7 = ((shk xs f n len box (kidiv sm 10) m z T).2.2 : Int) → Q 0 G' I') : kWP xs true (d + 53) 0 0 65 0 [(0, 14, 0, 20), (1, 0, 0, (T : Int)), (2, 0, 0, len), (3, 0, 0, box), (4, 0, 0, sm), (5, 0, 0, z)] [] G I Q := by
  refine b_Shaker_shakeAll_0 ⟨by omega, fun J1 e1 J2 e2 => ⟨by omega, fun J3 e3 J4 e4 J5 e5 J6 e6 J7 e7 => ?_⟩⟩
  rw [hsm] at e4 ⊢
  have g : ∀ a k, ¬ (a = 21 ∧ (k = 6 ∨ k = 7 ∨ k = 8 ∨ k = 10)) → ¬ (a = 20 ∧ (k = 5 ∨ k = 6 ∨ k = 7)) → J7 a k = I a k := fun a k n1 n2 => by
    rw [e7, kst_n (by omega), e6, kst_n (by omega), e5, kst_n (by omega), e4, kst_n (by omega), e3, kst_n (by omega), e2, kst_n (by omega), e1, kst_n (by omega)]
  have hC : CSk xs f n len box (kidiv sm 10) m J7 := by
    refine ⟨hT.fr (g _ _ (by omega) (by omega)) (fun k => g _ _ (by omega) (by omega)), hK.fr (fun k => g _ _ (by omega) (by omega)), ?_, ?_, ?_, ?_⟩
    · rw [e7, kst_n (by omega), e6, kst_n (by omega), e5, kst_n (by omega), e4, kst_n (by omega), e3, kst_n (by omega), e2, kst_n (by omega), e1, kst_s]
    · rw [e7, kst_n (by omega), e6, kst_n (by omega), e5, kst_n (by omega), e4, kst_n (by omega), e3, kst_n (by omega), e2, kst_s]
    · rw [e7, kst_n (by omega), e6, kst_n (by omega), e5, kst_n (by omega), e4, kst_n (by omega), e3, kst_s]
    · rw [e7, kst_n (by omega), e6, kst_n (by omega), e5, kst_n (by omega), e4, kst_s]
  have hf : shf I J7 := fun a k n => g a k (by omega) (by omega)
  suffices key : ∀ (u i : Nat) (G : KG) (J : KI), i + u = T → CSk xs f n len box (kidiv sm 10) m J → shf I J → J 20 5 = (shk xs f n len box (kidiv sm 10) m z i).1 → J 20 6 = ((shk xs f n len box (kidiv sm 10) m z i).2.1 : Int) → J 20 7 = ((shk xs f n len box (kidiv sm 10) m z i).2.2 : Int) → kWP xs true (d + 53) 0 0 65 63 [(0, 14, 0, 20), (1, 0, 0, (T : Int)), (6, 0, 0, (m : Int)), (7, 0, 0, (i : Int))] [] G J Q from
    key T 0 G J7 (by omega) hC hf (by rw [e7, kst_n (by omega), e6, kst_n (by omega), e5, kst_s]; rfl) (by rw [e7, kst_n (by omega), e6, kst_s]; rfl) (by rw [e7, kst_s]; rfl)
  intro u
  induction u with
  | zero =>
    intro i G J hi hC hf hz hk hs
    have : i = T := by omega
    subst this
    exact b_Shaker_shakeAll_63 ⟨fun _ => h G J hC.1 hC.2.1 hf hk hs, fun hh => by omega⟩
  | succ u ih =>
    intro i G J hi hC hf hz hk hs
    exact shake_in hx hcl hm2 hm hT50 (by omega) hC hf hz hk hs (fun G J a b c e g => ih (i + 1) G J (by omega) a b c e g)
