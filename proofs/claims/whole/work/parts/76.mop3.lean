/-! THE MODEL'S CALLS: shelves -/
/-- only shelf v (and what is carried) may change -/
def shfr (v : Nat) (I I' : KI) : Prop := ∀ a k, ¬ (a = 125 ∧ k = (v : Int)) → ¬ (a = 126 ∧ k = (v : Int)) → ¬ (a = 127 ∧ (60 * v : Nat) ≤ k ∧ k < (60 * v + 60 : Nat)) → a ≠ 128 → I' a k = I a k
theorem MShs.upd {sh : List Shf} {I J : KI} {v : Nat} {x : Shf} (h : MShs sh I) (h6 : v < 6) (hx : MShf v x J) (hf : shfr v I J) : MShs (sh.set v x) J := by
  refine ⟨by rw [List.length_set]; exact h.1, fun i hi => ?_⟩
  by_cases hij : i = v
  · subst hij
    rw [List.getD_eq_getElem?_getD, List.getElem?_set_self (by rw [h.1]; exact hi)]
    exact hx
  · rw [List.getD_eq_getElem?_getD, List.getElem?_set_ne (by omega), ← List.getD_eq_getElem?_getD]
    have hs := h.2 i hi
    generalize sh.getD i none = S at hs
    match S, hs with
    | none, hs => exact (hf _ _ (by omega) (by omega) (by omega) (by omega)).trans hs
    | some (.inl b), hs => exact ⟨(hf _ _ (by omega) (by omega) (by omega) (by omega)).trans hs.1, hs.2⟩
    | some (.inr (s, l)), hs =>
      obtain ⟨a, b, c, e⟩ := hs
      refine ⟨(hf _ _ (by omega) (by omega) (by omega) (by omega)).trans a, (hf _ _ (by omega) (by omega) (by omega) (by omega)).trans b, c, fun k hk => (hf _ _ (by omega) (by omega) ?_ (by omega)).trans (e k hk)⟩
      intro hh
      omega
theorem set_m {S : St} {v : Nat} {x : Shf} {I J : KI} (hS : RRep S I) (h6 : v < 6) (hx : MShf v x J) (hf : shfr v I J) : RRep (setSh S (v : Int) x) J ∧ lof I J := by
  obtain ⟨h1, h2, h3, h4, h5, h6'⟩ := hS
  exact ⟨⟨h1.fr (fun a k hk => hf _ _ (by omega) (by omega) (by omega) (by omega)), h2.fr (fun a k hk => hf _ _ (by omega) (by omega) (by omega) (by omega)), h3.fr (fun a k hk => hf _ _ (by omega) (by omega) (by omega) (by omega)), h4.fr (fun a k hk => hf _ _ (by omega) (by omega) (by omega) (by omega)), h5.fr (fun a k hk => hf _ _ (by omega) (by omega) (by omega) (by omega)), h6'.upd h6 hx hf⟩, fun a k hk => hf _ _ (by omega) (by omega) (by omega) (by omega)⟩
theorem MShs.at {sh : List Shf} {I : KI} (h : MShs sh I) {v : Int} (h0 : 0 ≤ v) (h6 : v < 6) : MShf v.toNat (sget sh v) I := h.2 v.toNat (by omega)
theorem t_M_isShelf {xs : KS} {d : Nat} {v : Int} {G : KG} {I : KI} {Q : KQ} (h : Q (bi (decide (0 ≤ v ∧ v < 6))) G I) : kWP xs true (d + 1) 0 0 234 0 [(0, 0, 0, v)] [] G I Q := by
  refine b_M_isShelf_0 (t_M_within (kzr_bi ?_))
  have e : decide (0 ≤ v ∧ v ≤ 5) = decide (0 ≤ v ∧ v < 6) := by
    by_cases hp : 0 ≤ v ∧ v < 6
    · rw [decide_eq_true hp, decide_eq_true (by omega)]
    · rw [decide_eq_false hp, decide_eq_false (by omega)]
  rw [e]; exact h
theorem m_keep {xs : KS} {v b : Int} : MOk xs 235 [(0, 19, 0, 101), (1, 0, 0, v), (2, 0, 0, b)] (opKeep v b) := by
  intro d S G I Q hS hI h
  have no : ∀ r, opKeep v b S = (r, S) → Q r G I := fun r e => by rw [e] at h; exact h G I hS (lof.rf I)
  have bad : ¬ (0 ≤ v ∧ v < 6 ∧ -1 ≤ b ∧ b < S.2.2.2.2.1.1.length) → Q (-1) G I := fun hn => no _ (by unfold opKeep; rw [if_neg hn])
  have hL := hS.2.2.2.2.1
  have h50 := hL.2.1
  refine b_M_keep_0 (t_M_isShelf ⟨fun h1 => bad (fun hh => of_decide_eq_false (bi0 h1) ⟨hh.1, hh.2.1⟩), fun h1 => ?_⟩)
  have hv : 0 ≤ v ∧ v < 6 := of_decide_eq_true (bi1 h1)
  obtain ⟨w, rfl⟩ : ∃ w : Nat, v = w := ⟨v.toNat, by omega⟩
  have put_ : -1 ≤ b → b < S.2.2.2.2.1.1.length → ∀ J1 J2 : KI, J1 = kst I 125 (w : Int) b → J2 = kst J1 126 (w : Int) 0 → Q 1 G J2 := fun h1 h2 J1 J2 e1 e2 => by
    have e : opKeep (w : Int) b S = (1, setSh S (w : Int) (shLie b)) := by unfold opKeep; rw [if_pos ⟨hv.1, hv.2, h1, h2⟩]
    rw [e] at h
    have hx : MShf w (shLie b) J2 := by
      have g : J2 125 (w : Int) = b := by rw [e2, kst_n (by omega), e1, kst_s]
      unfold shLie
      split
      · show J2 125 (w : Int) = -1
        rw [g]; omega
      · exact ⟨by rw [g]; omega, by omega⟩
    have a := set_m hS (by omega) hx (fun a k n1 n2 n3 n4 => by rw [e2, kst_n (by omega), e1, kst_n (by omega)])
    exact h G J2 a.1 a.2
  refine ⟨fun h2 => ⟨hv, fun J1 e1 => ⟨hv, fun J2 e2 => put_ (by omega) (by omega) J1 J2 e1 e2⟩⟩, fun h2 => t_M_isBody hL.1 h50 ⟨fun h3 => ?_, fun h3 => bad ?_⟩⟩
  · have h3 := of_decide_eq_true (bi1 h3)
    exact ⟨hv, fun J1 e1 => ⟨hv, fun J2 e2 => put_ (by omega) (by omega) J1 J2 e1 e2⟩⟩
  · have h3 := of_decide_eq_false (bi0 h3)
    omega
theorem m_row {xs : KS} {v s n : Int} : MOk xs 236 [(0, 19, 0, 101), (1, 0, 0, v), (2, 0, 0, s), (3, 0, 0, n)] (opRow v s n) := by
  intro d S G I Q hS hI h
  have no : ∀ r, opRow v s n S = (r, S) → Q r G I := fun r e => by rw [e] at h; exact h G I hS (lof.rf I)
  have bad : ¬ (0 ≤ v ∧ v < 6 ∧ 0 ≤ s ∧ s ≤ 4 ∧ n ≤ 60) → Q (-1) G I := fun hn => no _ (by unfold opRow; rw [if_neg hn])
  refine b_M_row_0 (t_M_isShelf ⟨fun h1 => bad (fun hh => of_decide_eq_false (bi0 h1) ⟨hh.1, hh.2.1⟩), fun h1 => t_M_within ⟨fun h2 => bad (fun hh => of_decide_eq_false (bi0 h2) ⟨hh.2.2.1, hh.2.2.2.1⟩), fun h2 => ⟨fun h4 => ⟨fun h5 => ?_, fun h5 => ?_⟩, fun h4 => bad (by omega)⟩⟩⟩)
  · have hv : 0 ≤ v ∧ v < 6 := of_decide_eq_true (bi1 h1)
    have hs := of_decide_eq_true (bi1 h2)
    obtain ⟨w, rfl⟩ : ∃ w : Nat, v = w := ⟨v.toNat, by omega⟩
    obtain ⟨t, rfl⟩ : ∃ t : Nat, s = t := ⟨s.toNat, by omega⟩
    obtain ⟨N, rfl⟩ : ∃ N : Nat, n = N := ⟨n.toNat, by omega⟩
    have e : opRow (w : Int) (t : Int) (N : Int) S = (1, setSh S (w : Int) (some (.inr (t, List.replicate (min N 60) 0)))) := by
      unfold opRow; rw [if_pos ⟨hv.1, hv.2, hs.1, hs.2, h4⟩, if_neg (by omega)]; rfl
    rw [e] at h
    rw [w32_id (x := 50 + (t : Int)) (by omega) (by omega)]
    refine ⟨hv, fun J1 e1 => ⟨hv, fun J2 e2 => ?_⟩⟩
    rw [w32_id (x := 60 * (w : Int)) (by omega) (by omega)]
    have g2 : shfr w I J2 := fun a k n1 n2 n3 n4 => by rw [e2, kst_n (by omega), e1, kst_n (by omega)]
    have g25 : J2 125 (w : Int) = 50 + (t : Int) := by rw [e2, kst_n (by omega), e1, kst_s]
    have g26 : J2 126 (w : Int) = (N : Int) := by rw [e2, kst_s]
    suffices key : ∀ (u j : Nat) (J : KI), j + u = 60 → shfr w I J → J 125 (w : Int) = 50 + (t : Int) → J 126 (w : Int) = (N : Int) → (∀ k : Nat, k < j → J 127 ((60 * w + k : Nat) : Int) = 0) → kWP xs true (d + 80) 0 0 236 57 [(0, 19, 0, 101), (1, 0, 0, (w : Int)), (4, 0, 0, ((60 * w + j : Nat) : Int))] [] G J Q from by
      have := key 60 0 J2 rfl g2 g25 g26 (fun k hk => absurd hk (Nat.not_lt_zero k))
      rw [show ((60 * w + 0 : Nat) : Int) = 60 * (w : Int) by omega] at this
      exact this
    intro u
    induction u with
    | zero =>
      intro j J hj hf h25 h26 hz
      refine b_M_row_57 ?_
      rw [w32_id (x := 60 * (w : Int)) (by omega) (by omega), w32_id (x := 60 * (w : Int) + 60) (by omega) (by omega)]
      refine ⟨fun _ => ?_, fun hh => by omega⟩
      have hx : MShf w (some (.inr (t, List.replicate (min N 60) 0))) J := by
        refine ⟨h25, by rw [h26, List.length_replicate]; omega, by rw [List.length_replicate]; omega, fun k hk => ?_⟩
        rw [List.length_replicate] at hk
        rw [hz k (by omega), List.getD_eq_getElem?_getD, List.getElem?_replicate, if_pos hk]; rfl
      have a := set_m hS (by omega) hx hf
      exact h G J a.1 a.2
    | succ u ih =>
      intro j J hj hf h25 h26 hz
      refine b_M_row_57 ?_
      rw [w32_id (x := 60 * (w : Int)) (by omega) (by omega), w32_id (x := 60 * (w : Int) + 60) (by omega) (by omega), w32_inc (by omega)]
      refine ⟨fun hh => by omega, fun _ => ⟨by omega, fun J3 e3 => ?_⟩⟩
      refine ih (j + 1) J3 (by omega) (fun a k n1 n2 n3 n4 => by rw [e3, kst_n (by omega)]; exact hf a k n1 n2 n3 n4) (by rw [e3, kst_n (by omega)]; exact h25) (by rw [e3, kst_n (by omega)]; exact h26) (fun k hk => ?_)
      rw [e3]
      by_cases hkj : k = j
      · rw [hkj, kst_s]
      · rw [kst_n (by omega)]; exact hz k (by omega)
  · have hv : 0 ≤ v ∧ v < 6 := of_decide_eq_true (bi1 h1)
    have hs := of_decide_eq_true (bi1 h2)
    exact no _ (by unfold opRow; rw [if_pos ⟨hv.1, hv.2, hs.1, hs.2, h4⟩, if_pos h5])
theorem t_M_refusal {xs : KS} {d : Nat} {v i : Int} {sh : List Shf} {G : KG} {I : KI} {Q : KQ} (hS : MShs sh I) (h : Q (shR sh v i) G I) : kWP xs true (d + 2) 0 0 237 0 [(0, 19, 0, 101), (1, 0, 0, v), (2, 0, 0, i)] [] G I Q := by
  unfold shR at h
  refine b_M_refusal_0 (t_M_isShelf ⟨fun h1 => ?_, fun h1 => ?_⟩)
  · have hv : 0 ≤ v ∧ v < 6 := of_decide_eq_true (bi1 h1)
    rw [if_pos hv] at h
    have hs := hS.at hv.1 hv.2
    rw [show v = ((v.toNat : Nat) : Int) by omega]
    refine ⟨by omega, ?_⟩
    cases hg : sget sh v with
    | none =>
      rw [hg] at hs h
      rw [show I 125 (v.toNat : Int) = -1 from hs]
      exact ⟨fun hh => absurd hh (by decide), fun _ => h⟩
    | some z =>
      cases z with
      | inl b =>
        rw [hg] at hs h
        have hb := hs.2
        rw [hs.1]
        exact ⟨fun _ => ⟨by omega, fun hh => by omega, fun _ => h⟩, fun hh => by omega⟩
      | inr q =>
        obtain ⟨s, l⟩ := q
        rw [hg] at hs h
        rw [hs.1, hs.2.1]
        simp only at h
        refine ⟨fun _ => ⟨by omega, fun _ => ⟨fun h2 => ?_, fun h2 => ⟨by omega, fun h3 => ?_, fun h3 => ?_⟩⟩, fun hh => by omega⟩, fun hh => by omega⟩
        · rw [if_neg (by omega)] at h; exact h
        · rw [if_neg (by omega)] at h; exact h
        · rw [if_pos (by omega)] at h; exact h
  · rw [if_neg (of_decide_eq_false (bi0 h1))] at h
    exact h
theorem t_M_asSort {xs : KS} {d s : Nat} {v : Int} {G : KG} {I : KI} {Q : KQ} (hs : s < 5) (h : Q (shCut s v) G I) : kWP xs true (d) 0 0 238 0 [(0, 0, 0, (s : Int)), (1, 1, 0, v)] [] G I Q := by
  unfold shCut at h
  refine b_M_asSort_0 ⟨fun h0 => ⟨fun h1 => ⟨fun h2 => ⟨fun h4 => ?_, fun h4 => ⟨fun h5 => ?_, fun h5 => ?_⟩⟩, fun h2 => ?_⟩, fun h1 => ?_⟩, fun h0 => ?_⟩
  · rw [if_neg (by omega), if_neg (by omega), if_neg (by omega), if_pos (by omega)] at h; exact h
  · have : v = 0 := by
      rcases Int.lt_trichotomy v 0 with e | e | e
      · have := klcmp_lt.mpr e; omega
      · exact e
      · have := klcmp_gt.mpr e; omega
    rw [if_neg (by omega), if_neg (by omega), if_neg (by omega), if_neg (by omega), if_pos this] at h; exact h
  · have : v ≠ 0 := by intro e; rw [e] at h5; exact h5 (by decide)
    rw [if_neg (by omega), if_neg (by omega), if_neg (by omega), if_neg (by omega), if_neg this] at h; exact h
  · rw [if_neg (by omega), if_neg (by omega), if_pos (by omega)] at h; exact h
  · rw [if_neg (by omega), if_pos (by omega)] at h; exact h
  · rw [if_pos (by omega)] at h; exact h
theorem m_put {xs : KS} {v i x : Int} : MOk xs 239 [(0, 19, 0, 101), (1, 0, 0, v), (2, 0, 0, i), (3, 1, 0, x)] (opPut v i x) := by
  intro d S G I Q hS hI h
  unfold opPut at h
  refine b_M_put_0 (t_M_refusal hS.2.2.2.2.2 ⟨fun h1 => ⟨fun _ => ?_, fun h2 => absurd h2 h1⟩, fun h1 => ?_⟩)
  · rw [if_neg h1] at h
    exact h G I hS (lof.rf I)
  · obtain ⟨v0, v6, s, l, hg, i0, il⟩ := shR_0 h1
    have hs := hS.2.2.2.2.2.at v0 v6
    rw [hg] at hs
    obtain ⟨w, rfl⟩ : ∃ w : Nat, v = w := ⟨v.toNat, by omega⟩
    obtain ⟨j, rfl⟩ : ∃ j : Nat, i = j := ⟨i.toNat, by omega⟩
    simp only [Int.toNat_natCast] at hs
    obtain ⟨a1, a2, a3, a4⟩ := hs
    have hs5 := (hI.2.2.2.2.2.2.2.2.2.2.2.2.2.1 w s l hg).1
    rw [if_pos h1, hg] at h
    simp only [Int.toNat_natCast] at h
    rw [a1, w32_id (x := 50 + (s : Int) - 50) (by omega) (by omega), show 50 + (s : Int) - 50 = (s : Int) by omega]
    refine ⟨⟨v0, v6⟩, t_M_asSort hs5 ?_⟩
    rw [w32_id (x := 60 * (w : Int)) (by omega) (by omega), w32_id (x := 60 * (w : Int) + (j : Int)) (by omega) (by omega), show 60 * (w : Int) + (j : Int) = ((60 * w + j : Nat) : Int) by omega]
    refine ⟨by omega, fun J e1 => ⟨fun hh => absurd h1 hh, fun _ => ?_⟩⟩
    have hx : MShf w (some (.inr (s, l.set j (shCut s x)))) J := by
      refine ⟨by rw [e1, kst_n (by omega)]; exact a1, by rw [e1, kst_n (by omega), List.length_set]; exact a2, by rw [List.length_set]; exact a3, fun k hk => ?_⟩
      rw [List.length_set] at hk
      rw [e1]
      by_cases hkj : k = j
      · rw [hkj, kst_s, List.getD_eq_getElem?_getD, List.getElem?_set_self (by omega)]; rfl
      · rw [kst_n (by omega), List.getD_eq_getElem?_getD, List.getElem?_set_ne (by omega), ← List.getD_eq_getElem?_getD]
        exact a4 k hk
    have a := set_m hS (by omega) hx (fun a k n1 n2 n3 n4 => by rw [e1, kst_n (by omega)])
    exact h G J a.1 a.2
theorem m_element {xs : KS} {v i : Int} : MOk xs 240 [(0, 19, 0, 101), (1, 0, 0, v), (2, 0, 0, i)] (opElement v i) := by
  intro d S G I Q hS hI h
  unfold opElement at h
  refine b_M_element_0 (t_M_refusal hS.2.2.2.2.2 ⟨fun h1 => ?_, fun h1 => ?_⟩)
  · obtain ⟨v0, v6, s, l, hg, i0, il⟩ := shR_0 h1
    have hs := hS.2.2.2.2.2.at v0 v6
    rw [hg] at hs
    obtain ⟨w, rfl⟩ : ∃ w : Nat, v = w := ⟨v.toNat, by omega⟩
    obtain ⟨j, rfl⟩ : ∃ j : Nat, i = j := ⟨i.toNat, by omega⟩
    simp only [Int.toNat_natCast] at hs
    have l60 := hs.2.2.1
    rw [w32_id (x := 60 * (w : Int)) (by omega) (by omega), w32_id (x := 60 * (w : Int) + (j : Int)) (by omega) (by omega), show 60 * (w : Int) + (j : Int) = ((60 * w + j : Nat) : Int) by omega]
    refine ⟨by omega, ?_⟩
    rw [hs.2.2.2 j (by omega)]
    rw [if_pos h1, hg] at h
    exact h G I hS (lof.rf I)
  · rw [if_neg h1] at h
    exact h G I hS (lof.rf I)
/-- a kind above, as the model has it -/
def abM (k : Nat) : Nat := if k = 3 ∨ k = 7 then 2 else if k = 4 then 1 else 0
def rkM (k : Nat) : Nat := if k = 3 ∨ k = 4 ∨ k = 7 then 2 else if k = 0 then 0 else 1
def tkM (t : Nat) : Nat → Nat → Nat
  | 0, k => k
  | u + 1, k => if k = t ∨ k = 0 then k else tkM t u (abM k)
theorem rk_ab : ∀ k, k < 8 → k ≠ 0 → rkM (abM k) + 1 ≤ rkM k ∧ abM k < 8 := by decide
theorem rk_le : ∀ k, k < 8 → rkM k ≤ 8 := by decide
def undL (t : Nat) : Nat → Int → Bool
  | 0, _ => false
  | u + 1, k => if k < 0 then false else if k = (t : Int) then true else undL t u (abvL.getD k.toNat 0)
theorem und_t : ∀ t, t < 8 → ∀ k : Nat, k < 8 → undL t 8 (k : Int) = decide (tkM t 8 k = t) := by decide
theorem und_x {xs : KS} {t : Nat} (hX : XLie xs) : ∀ (u : Nat) (k : Int), k < 8 → undr xs (t : Int) u k = undL t u k
  | 0, k, _ => rfl
  | u + 1, k, hk => by
    unfold undr undL
    by_cases h0 : k < 0
    · rw [if_pos h0, if_pos h0]
    · rw [if_neg h0, if_neg h0]
      by_cases h1 : k = (t : Int)
      · rw [if_pos h1, if_pos h1]
      · rw [if_neg h1, if_neg h1]
        have := hX.2.1 k.toNat (by omega)
        rw [show ((k.toNat : Nat) : Int) = k by omega] at this
        rw [this]
        refine und_x hX u _ ?_
        have : ∀ j, j < 8 → abvL.getD j 0 < 8 := by decide
        exact this _ (by omega)
theorem t_M_above {xs : KS} {d k : Nat} {G : KG} {I : KI} {Q : KQ} (h : Q (abM k : Int) G I) : kWP xs true (d) 0 0 226 0 [(0, 0, 0, (k : Int))] [] G I Q := by
  unfold abM at h
  refine b_M_above_0 ⟨fun h1 => ?_, fun h1 => ⟨fun h2 => ⟨fun h3 => ?_, fun h3 => ?_⟩, fun h2 => ?_⟩⟩
  · rw [if_pos (by omega)] at h; exact h
  · rw [if_neg (by omega), if_neg (by omega)] at h; exact h
  · rw [if_neg (by omega), if_pos (by omega)] at h; exact h
  · rw [if_pos (by omega)] at h; exact h
theorem m_taken {xs : KS} {v k : Int} (hX : XLie xs) : MOk xs 242 [(0, 19, 0, 101), (1, 0, 0, v), (2, 0, 0, k)] (opTaken xs v k) := by
  intro d S G I Q hS hI h
  have no : ∀ r, opTaken xs v k S = (r, S) → Q r G I := fun r e => by rw [e] at h; exact h G I hS (lof.rf I)
  unfold opTaken at no
  refine b_M_taken_0 (t_M_isShelf ⟨fun h1 => no _ (by rw [if_pos (fun hh => of_decide_eq_false (bi0 h1) ⟨hh.1, hh.2.1⟩)]), fun h1 => t_M_within ⟨fun h2 => ?_, fun h2 => no _ (by rw [if_pos (fun hh => of_decide_eq_false (bi0 h2) ⟨hh.2.2.1, by omega⟩)])⟩⟩)
  have hv : 0 ≤ v ∧ v < 6 := of_decide_eq_true (bi1 h1)
  have hk := of_decide_eq_true (bi1 h2)
  rw [if_neg (fun hh => hh ⟨hv.1, hv.2, hk.1, by omega⟩)] at no
  have hs := hS.2.2.2.2.2.at hv.1 hv.2
  obtain ⟨w, rfl⟩ : ∃ w : Nat, v = w := ⟨v.toNat, by omega⟩
  obtain ⟨t, rfl⟩ : ∃ t : Nat, k = t := ⟨k.toNat, by omega⟩
  simp only [Int.toNat_natCast] at hs
  refine ⟨hv, ?_⟩
  cases hg : sget S.2.2.2.2.2 (w : Int) with
  | none =>
    rw [hg] at hs no
    rw [show I 125 (w : Int) = -1 from hs]
    exact ⟨fun hh => absurd hh (by decide), fun _ => no _ rfl⟩
  | some z =>
    cases z with
    | inl b =>
      rw [hg] at hs no
      have hb : b < S.2.2.2.2.1.1.length := hI.2.2.2.2.2.2.2.2.2.2.2.2.1 w b hg
      have hK := hI.2.2.2.2.2.2.2.2.2.1 b hb
      have ek : kindK S.2.2.2.2.1.1 (b : Int) = S.2.2.2.2.1.1.getD b 0 := by unfold kindK; rw [if_pos (by omega)]; rfl
      obtain ⟨kd, hkd⟩ : ∃ kd : Nat, S.2.2.2.2.1.1.getD b 0 = kd := ⟨(S.2.2.2.2.1.1.getD b 0).toNat, by omega⟩
      have hb50 := hs.2
      have hkind : ∀ (D : Nat) (Q' : KQ), Q' (kd : Int) G I → kWP xs true (D) 0 0 224 0 [(0, 19, 0, 101), (1, 0, 0, (b : Int))] [] G I Q' := fun D Q' hq => b_M_kindOf_0 ⟨by omega, by rw [hS.2.2.2.2.1.2.2.1 b hb, hkd]; exact hq⟩
      simp only at no
      rw [ek, hkd, und_x hX 8 (kd : Int) (by omega), und_t t (by omega) kd (by omega)] at no
      rw [hs.1]
      refine ⟨fun _ => ⟨hv, fun _ => ⟨hv, hkind _ _ ?_⟩, fun hh => by omega⟩, fun hh => by omega⟩
      have fin : ∀ r : Nat, r = tkM t 8 kd → (((r : Int) ≠ (t : Int) → Q (-12) G I) ∧ ((r : Int) = (t : Int) → (0 ≤ (w : Int) ∧ (w : Int) < 6) ∧ kWP xs true (d + 79) 0 0 224 0 [(0, 19, 0, 101), (1, 0, 0, I 125 (w : Int))] [] G I Q)) := fun r hr => by
        refine ⟨fun hne => no _ ?_, fun heq => ⟨hv, ?_⟩⟩
        · rw [if_neg (by rw [decide_eq_false (by omega)]; simp)]
        · rw [hs.1]
          exact hkind _ _ (no _ (by rw [if_pos (decide_eq_true (by omega))]))
      suffices key : ∀ (u k : Nat), k < 8 → rkM k ≤ u → tkM t u k = tkM t 8 kd → kWP xs true (d + 80) 0 0 242 58 [(0, 19, 0, 101), (1, 0, 0, (w : Int)), (2, 0, 0, (t : Int)), (3, 0, 0, (k : Int))] [] G I Q from key 8 kd (by omega) (rk_le kd (by omega)) rfl
      intro u
      induction u with
      | zero =>
        intro k hk8 hr he
        have k0 : k = 0 := by
          rcases Nat.eq_zero_or_pos k with e | e
          · exact e
          · have := rk_ab k hk8 (by omega); omega
        have hr2 : k = tkM t 8 kd := he
        exact b_M_taken_58 ⟨fun _ => fin k hr2, fun _ => ⟨fun _ => fin k hr2, fun hh => by omega⟩⟩
      | succ u ih =>
        intro k hk8 hr he
        unfold tkM at he
        by_cases hc : k = t ∨ k = 0
        · rw [if_pos hc] at he
          exact b_M_taken_58 ⟨fun _ => fin k he, fun _ => ⟨fun _ => fin k he, fun hh => by omega⟩⟩
        · rw [if_neg hc] at he
          have hra := rk_ab k hk8 (by omega)
          exact b_M_taken_58 ⟨fun hh => by omega, fun _ => ⟨fun hh => by omega, fun _ => t_M_above (ih (abM k) hra.2 (by omega) he)⟩⟩
    | inr q =>
      obtain ⟨s, l⟩ := q
      rw [hg] at hs no
      rw [hs.1]
      exact ⟨fun _ => ⟨hv, fun hh => by omega, fun _ => no _ rfl⟩, fun hh => by omega⟩
