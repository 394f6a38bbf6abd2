/-! SHELVES -/
theorem t_fillL {xs : KS} {d : Nat} {r v : Int} {n : Nat} {G : KG} {I : KI} {Q : KQ} (hn : n < 60000) (h : ∀ I' : KI, (∀ a k, I' a k = if a = r ∧ 0 ≤ k ∧ k < n then v else I a k) → Q 0 G I') : kWP xs true (d) 0 0 245 0 [(0, 5, n, r), (1, 1, 0, v)] [] G I Q := by
  refine b_Arrays_fill0_0 ?_
  have key : ∀ (J : KI), (∀ a k, J a k = if a = r ∧ 0 ≤ k ∧ k < ((0 : Nat) : Int) then v else I a k) → kWP xs true (d) 0 0 245 6 [(0, 5, n, r), (1, 1, 0, v), (3, 0, 0, ((0 : Nat) : Int)), (4, 0, 0, (n : Int))] [] G J Q := by
    refine loop_up (n := n) (W := fun i => ∀ (J : KI), (∀ a k, J a k = if a = r ∧ 0 ≤ k ∧ k < (i : Int) then v else I a k) → kWP xs true (d) 0 0 245 6 [(0, 5, n, r), (1, 1, 0, v), (3, 0, 0, (i : Int)), (4, 0, 0, (n : Int))] [] G J Q) ?_ ?_ (Nat.zero_le _)
    · intro J hJ
      exact b_Arrays_fill0_6 ⟨fun _ => h J hJ, fun h1 => by omega⟩
    · intro i hi ih J hJ
      refine b_Arrays_fill0_6 ⟨fun h1 => by omega, fun _ => ⟨⟨by omega, by omega⟩, ?_⟩⟩
      intro J1 hJ1
      rw [w32_id (by omega) (by omega)]
      refine ih J1 (fun a k => ?_)
      rw [hJ1]
      unfold kst
      rw [hJ a k]
      by_cases h1 : a = r ∧ k = i
      · rw [if_pos h1, if_pos (by omega)]
      · rw [if_neg h1]
        by_cases h2 : a = r ∧ 0 ≤ k ∧ k < (i : Int)
        · rw [if_pos h2, if_pos (by omega)]
        · rw [if_neg h2, if_neg (by omega)]
  exact key I (fun a k => by rw [if_neg (by omega)])
/-- what a shelf holds -/
abbrev Shf : Type := Option (Nat ⊕ (Nat × List Int))
def CShf (p : Int) : Shf → KI → Prop
  | none, I => I p 1 = 0
  | some (.inl b), I => I p 1 = 1 ∧ I p 2 = (b : Int)
  | some (.inr (s, l)), I => I p 1 = 2 ∧ I p 3 = (s : Int) ∧ I p 4 = (l.length : Int) ∧ l.length ≤ 60 ∧ ∀ k, k < l.length → I (p + 1) (k : Int) = l.getD k 0
theorem CShf.moved {p : Int} {S : Shf} {I J : KI} (h : CShf p S I) (h0 : ∀ k, J p k = I p k) (h1 : ∀ k, J (p + 1) k = I (p + 1) k) : CShf p S J := by
  match S, h with
  | none, h => exact (h0 1).trans h
  | some (.inl b), h => exact ⟨(h0 1).trans h.1, (h0 2).trans h.2⟩
  | some (.inr (s, l)), h => exact ⟨(h0 1).trans h.1, (h0 3).trans h.2.1, (h0 4).trans h.2.2.1, h.2.2.2.1, fun k hk => (h1 _).trans (h.2.2.2.2 k hk)⟩
theorem CShf.fr {p lo hi : Int} {S : Shf} {I J : KI} (h : CShf p S I) (hf : kfr lo hi I J) (hp : p + 1 < lo ∨ hi ≤ p) : CShf p S J := h.moved (fun k => hf _ _ (by omega)) (fun k => hf _ _ (by omega))
def shLie (v : Int) : Shf := if v < 0 then none else some (.inl v.toNat)
theorem t_Shelf_holdLie {xs : KS} {d : Nat} {p v : Int} {G : KG} {I : KI} {Q : KQ} (h : ∀ I' : KI, CShf p (shLie v) I' → kfr p (p + 2) I I' → Q 0 G I') : kWP xs true (d) 0 0 70 0 [(0, 15, 0, p), (1, 0, 0, v)] [] G I Q := by
  refine b_Shelf_holdLie_0 ⟨fun h1 J1 e1 J2 e2 => h J2 ?_ (fun x k hx => by rw [e2, kst_a (by omega), e1, kst_a (by omega)]), fun h1 J1 e1 J2 e2 => h J2 ?_ (fun x k hx => by rw [e2, kst_a (by omega), e1, kst_a (by omega)])⟩
  · unfold shLie
    rw [if_neg (by omega)]
    exact ⟨by rw [e2, kst_k (by omega), e1, kst_s], by rw [e2, kst_s]; omega⟩
  · unfold shLie
    rw [if_pos h1]
    show J2 p 1 = 0
    rw [e2, kst_k (by omega), e1, kst_s]
theorem t_Shelf_holdRow {xs : KS} {d : Nat} {p : Int} {s n : Nat} {G : KG} {I : KI} {Q : KQ} (h : ∀ I' : KI, CShf p (some (.inr (s, List.replicate (min n 60) 0))) I' → kfr p (p + 2) I I' → Q 0 G I') : kWP xs true (d + 1) 0 0 71 0 [(0, 15, 0, p), (1, 0, 0, (s : Int)), (2, 0, 0, (n : Int))] [] G I Q := by
  refine b_Shelf_holdRow_0 (t_fillL (by omega) (fun J e J1 e1 J2 e2 J3 e3 => h J3 ⟨?_, ?_, ?_, ?_, fun k hk => ?_⟩ (fun x k hx => ?_)))
  · rw [e3, kst_k (by omega), e2, kst_k (by omega), e1, kst_s]
  · rw [e3, kst_k (by omega), e2, kst_s]
  · rw [e3, kst_s, List.length_replicate]
    split <;> omega
  · rw [List.length_replicate]; omega
  · rw [List.length_replicate] at hk
    rw [e3, kst_a (by omega), e2, kst_a (by omega), e1, kst_a (by omega), e, if_pos (by omega)]
    rw [List.getD_eq_getElem?_getD, List.getElem?_replicate, if_pos hk]; rfl
  · rw [e3, kst_a (by omega), e2, kst_a (by omega), e1, kst_a (by omega), e, if_neg (by omega)]
def shIs (S : Shf) (s : Nat) : Bool := match S with
  | some (.inr (t, _)) => decide (t = s)
  | _ => false
theorem t_Shelf_isRowOf {xs : KS} {d : Nat} {p : Int} {S : Shf} {s : Nat} {G : KG} {I : KI} {Q : KQ} (hS : CShf p S I) (h : Q (bi (shIs S s)) G I) : kWP xs true (d) 0 0 72 0 [(0, 15, 0, p), (1, 0, 0, (s : Int))] [] G I Q := by
  refine b_Shelf_isRowOf_0 ?_
  match S, hS, h with
  | none, hS, h =>
    have h1 : I p 1 = 0 := hS
    exact ⟨fun _ => h, fun h2 => by omega⟩
  | some (.inl b), hS, h =>
    have h1 := hS.1
    exact ⟨fun _ => h, fun h2 => by omega⟩
  | some (.inr (t, l)), hS, h =>
    obtain ⟨c1, c2, c3, c4, c5⟩ := hS
    change Q (bi (decide (t = s))) G I at h
    refine ⟨fun h2 => by omega, fun _ => ⟨fun h2 => ?_, fun h2 => ?_⟩⟩
    · rw [decide_eq_false (by omega)] at h; exact h
    · rw [decide_eq_true (by omega)] at h; exact h
theorem t_Shelf_hasPlaces {xs : KS} {d : Nat} {p i n : Int} {t : Nat} {l : List Int} {G : KG} {I : KI} {Q : KQ} (hS : CShf p (some (.inr (t, l))) I) (h : Q (bi (decide (0 ≤ i ∧ 0 ≤ n ∧ i ≤ (l.length : Int) - n))) G I) (hn : n < 2147483648) : kWP xs true (d) 0 0 73 0 [(0, 15, 0, p), (1, 0, 0, i), (2, 0, 0, n)] [] G I Q := by
  obtain ⟨c1, c2, c3, c4, c5⟩ := hS
  refine b_Shelf_hasPlaces_0 ⟨fun h1 => ?_, fun h1 => ⟨fun h2 => ?_, fun h2 => ?_⟩⟩
  · rw [decide_eq_false (by omega)] at h; exact h
  · rw [decide_eq_false (by omega)] at h; exact h
  · rw [c3, w32_id (by omega) (by omega)]
    refine ⟨fun h3 => ?_, fun h3 => ?_⟩
    · rw [decide_eq_false (by omega)] at h; exact h
    · rw [decide_eq_true (by omega)] at h; exact h
/-- a value as the row's sort keeps it -/
def shCut (s : Nat) (v : Int) : Int := if s = 0 then w8 (w32 v) else if s = 1 then w16 (w32 v) else if s = 2 then w32 v else if s = 3 then v else if v = 0 then 0 else 1
theorem t_Shelf_putIn {xs : KS} {d : Nat} {p v : Int} {i s : Nat} {l : List Int} {G : KG} {I : KI} {Q : KQ} (hS : CShf p (some (.inr (s, l))) I) (hi : i < l.length) (h : ∀ I' : KI, CShf p (some (.inr (s, l.set i (shCut s v)))) I' → kfr p (p + 2) I I' → Q 0 G I') : kWP xs true (d) 0 0 74 0 [(0, 15, 0, p), (1, 0, 0, (i : Int)), (2, 1, 0, v)] [] G I Q := by
  obtain ⟨c1, c2, c3, c4, c5⟩ := hS
  have fin : ∀ w : Int, w = shCut s v → ∀ J : KI, J = kst I (p + 1) i w → Q 0 G J := by
    intro w hw J e
    refine h J ⟨by rw [e, kst_a (by omega)]; exact c1, by rw [e, kst_a (by omega)]; exact c2, by rw [e, kst_a (by omega), List.length_set]; exact c3, by rw [List.length_set]; exact c4, fun k hk => ?_⟩ (fun x k hx => by rw [e, kst_a (by omega)])
    rw [List.length_set] at hk
    rw [List.getD_eq_getElem?_getD, List.getElem?_set]
    by_cases hki : k = i
    · subst hki
      rw [e, kst_s, if_pos rfl, if_pos hk, hw]; rfl
    · rw [e, kst_k (by omega), if_neg (by omega), c5 k hk, List.getD_eq_getElem?_getD]
  have k0 : klcmp v 0 = 0 → v = 0 := fun hh => by
    unfold klcmp at hh
    by_cases h1 : 0 < v
    · rw [if_pos h1] at hh; omega
    · rw [if_neg h1] at hh
      by_cases h2 : v = 0
      · exact h2
      · rw [if_neg h2] at hh; omega
  have k1 : klcmp v 0 ≠ 0 → v ≠ 0 := fun hh e => hh (by rw [e]; rfl)
  refine b_Shelf_putIn_0 ⟨fun h1 => by omega, fun _ => ⟨fun _ => ?_, fun h1 => by omega⟩⟩
  rw [c2]
  refine ⟨fun h1 => by omega, fun h1 => ⟨fun h2 => ⟨by omega, fin 0 ?_⟩, fun h2 => ⟨by omega, fin 1 ?_⟩⟩, fun h1 => ⟨by omega, fin _ ?_⟩, fun h1 => ⟨by omega, fin _ ?_⟩, fun h1 => ⟨by omega, fin _ ?_⟩, fun h1 => ⟨by omega, fin _ ?_⟩, trivial⟩
  · unfold shCut; rw [if_neg (by omega), if_neg (by omega), if_neg (by omega), if_neg (by omega), if_pos (k0 h2)]
  · unfold shCut; rw [if_neg (by omega), if_neg (by omega), if_neg (by omega), if_neg (by omega), if_neg (k1 h2)]
  · unfold shCut; rw [if_pos (by omega)]
  · unfold shCut; rw [if_neg (by omega), if_pos (by omega)]
  · unfold shCut; rw [if_neg (by omega), if_neg (by omega), if_pos (by omega)]
  · unfold shCut; rw [if_neg (by omega), if_neg (by omega), if_neg (by omega), if_pos (by omega)]
