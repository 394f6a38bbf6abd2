/-! THE CLASS: a word from the tape; shelves; the shaker -/
/-- a byte (with its sign) as a letter: twice its place, and 1 if capital -/
def ltr (m : Nat) (b : Int) : Option Nat :=
  let cap := decide (65 ≤ b ∧ b ≤ 90)
  let p := if cap then b - 65 else b - 97
  if 0 ≤ p ∧ p ≤ (m : Int) - 2 then some (2 * p.toNat + cap.toNat) else none
def wbad (m : Nat) (f : Nat → Int) (i : Nat) : Bool := decide (7 ≤ i) || (ltr m (f i)).isNone
theorem t_C_faultOfWord {xs : KS} {d m n : Nat} {f : Nat → Int} {G : KG} {I : KI} {Q : KQ} (hm : 2 ≤ m) (hm4 : m ≤ 4) (hn : n ≤ 120) (h1 : I 0 1 = (n : Int)) (hf0 : ∀ k : Nat, k < n → I 1 (k : Int) = f k ∧ -128 ≤ f k ∧ f k < 128)
    (h : ∀ I' : KI, kfr 17 18 I I' → (∀ k : Nat, k < n → fnd (wbad m f) n = n → I' 17 (k : Int) = ((ltr m (f k)).getD 0 : Int)) → Q (if fnd (wbad m f) n < n then (fnd (wbad m f) n : Int) else -1) G I') : kWP xs true (d) 0 0 126 0 [(0, 18, 0, 0), (1, 0, 0, (m : Int))] [] G I Q := by
  refine b_C_faultOfWord_0 ?_
  refine loop_up (n := n) (W := fun i => ∀ J : KI, (∀ j, j < i → wbad m f j = false) → kfr 17 18 I J → (∀ k : Nat, k < i → J 17 (k : Int) = ((ltr m (f k)).getD 0 : Int)) → kWP xs true (d) 0 0 126 2 [(0, 18, 0, 0), (1, 0, 0, (m : Int)), (2, 0, 0, (i : Int))] [] G J Q) ?_ ?_ (Nat.zero_le _) I (fun j hj => absurd hj (Nat.not_lt_zero j)) (kfr.rf _ _ _) (fun k hk => absurd hk (Nat.not_lt_zero k))
  · intro J hg hf hw
    have h := h J hf (fun k hk _ => hw k hk)
    rw [if_neg (by rw [fnd_none hg]; omega)] at h
    refine b_C_faultOfWord_2 ?_
    rw [hf 0 1 (by omega), h1]
    exact ⟨fun _ => h, fun hh => by omega⟩
  · intro i hi ih J hg hf hw
    have hb := hf0 i hi
    have g1 : J 1 (i : Int) = f i := by rw [hf _ _ (by omega)]; exact hb.1
    have bad : wbad m f i = true → Q (i : Int) G J := fun hb => by
      have e := fnd_eq hi hb hg
      have h := h J hf (fun k _ he => by omega)
      rw [e, if_pos hi] at h; exact h
    have seven : 7 ≤ i → wbad m f i = true := fun h7 => by unfold wbad; rw [decide_eq_true h7]; rfl
    have nol : ltr m (f i) = none → wbad m f i = true := fun hl => by unfold wbad; rw [hl]; simp
    have go : ∀ (x : Nat) (J1 : KI), i < 7 → ltr m (f i) = some x → J1 = kst J 17 (i : Int) (x : Int) → kWP xs true (d) 0 0 126 2 [(0, 18, 0, 0), (1, 0, 0, (m : Int)), (2, 0, 0, w32 ((i : Int) + 1))] [] G J1 Q := fun x J1 h7 hl e1 => by
      rw [w32_id (by omega) (by omega)]
      refine ih J1 (all_step (p := fun j => wbad m f j = false) hg ?_) (hf.tr (fun a k hk => by rw [e1, kst_n (by omega)])) (all_step (p := fun k => J1 17 (k : Int) = ((ltr m (f k)).getD 0 : Int)) (fun k hk => ?_) ?_)
      · unfold wbad; rw [hl, decide_eq_false (by omega)]; rfl
      · rw [e1, kst_n (by omega)]; exact hw k hk
      · rw [e1, kst_s, hl]; rfl
    have low : ¬ (65 ≤ f i ∧ f i ≤ 90) → kWP xs true (d) 0 0 126 36 [(0, 18, 0, 0), (1, 0, 0, (m : Int)), (2, 0, 0, (i : Int))] [] G J Q := fun hc => by
      have hl : ltr m (f i) = if 0 ≤ f i - 97 ∧ f i - 97 ≤ (m : Int) - 2 then some (2 * (f i - 97).toNat + 0) else none := by unfold ltr; simp only; rw [decide_eq_false hc]; rfl
      refine b_C_faultOfWord_36 ⟨by omega, fun _ => ⟨fun h7 => bad (seven (by omega)), fun h7 => ?_⟩, fun hh => absurd rfl hh⟩
      rw [g1, w32_id (x := f i - 97) (by omega) (by omega), w32_id (x := (m : Int) - 2) (by omega) (by omega)]
      refine ⟨fun h2 => bad (nol (by rw [hl, if_neg (by omega)])), fun h2 => ⟨fun h3 => ⟨fun _ => ⟨by omega, fun J1 e1 => go (2 * (f i - 97).toNat + 0) J1 (by omega) (by rw [hl, if_pos ⟨h2, h3⟩]) ?_⟩, fun hh => absurd rfl hh⟩, fun h3 => bad (nol (by rw [hl, if_neg (by omega)]))⟩⟩
      rw [e1, w32_id (x := 2 * (f i - 97)) (by omega) (by omega), w32_id (by omega) (by omega)]
      congr 1
      omega
    refine b_C_faultOfWord_2 ?_
    rw [hf 0 1 (by omega), h1, g1]
    refine ⟨fun hh => by omega, fun _ => ⟨by omega, fun hh => low (by omega), fun h65 => ⟨by omega, fun hh => low (by omega), fun h90 => ⟨by omega, fun hh => absurd hh (by decide), fun _ => ⟨fun h7 => bad (seven (by omega)), fun h7 => ?_⟩⟩⟩⟩⟩
    have hl : ltr m (f i) = if 0 ≤ f i - 65 ∧ f i - 65 ≤ (m : Int) - 2 then some (2 * (f i - 65).toNat + 1) else none := by unfold ltr; simp only; rw [decide_eq_true ⟨h65, h90⟩]; rfl
    rw [w32_id (x := f i - 65) (by omega) (by omega), w32_id (x := (m : Int) - 2) (by omega) (by omega)]
    refine ⟨fun h2 => bad (nol (by rw [hl, if_neg (by omega)])), fun h2 => ⟨fun h3 => ⟨fun hh => absurd hh (by decide), fun _ => ⟨by omega, fun J1 e1 => go (2 * (f i - 65).toNat + 1) J1 (by omega) (by rw [hl, if_pos ⟨h2, h3⟩]) ?_⟩⟩, fun h3 => bad (nol (by rw [hl, if_neg (by omega)]))⟩⟩
    rw [e1, w32_id (x := 2 * (f i - 65)) (by omega) (by omega), w32_id (by omega) (by omega)]
    congr 1
    omega
theorem t_C_isShelf {xs : KS} {d : Nat} {v : Int} {G : KG} {I : KI} {Q : KQ} (h : Q (bi (decide (0 ≤ v ∧ v < 6))) G I) : kWP xs true (d) 0 0 122 0 [(0, 0, 0, v)] [] G I Q := by
  refine b_C_isShelf_0 ⟨fun h1 => ?_, fun h1 => ⟨fun h2 => ?_, fun h2 => ?_⟩⟩
  · rw [decide_eq_false (by omega)] at h; exact h
  · rw [decide_eq_false (by omega)] at h; exact h
  · rw [decide_eq_true (by omega)] at h; exact h
theorem t_C_isKind {xs : KS} {d : Nat} {v : Int} {G : KG} {I : KI} {Q : KQ} (h : Q (bi (decide (0 ≤ v ∧ v < 8))) G I) : kWP xs true (d) 0 0 123 0 [(0, 0, 0, v)] [] G I Q := by
  refine b_C_isKind_0 ⟨fun h1 => ?_, fun h1 => ⟨fun h2 => ?_, fun h2 => ?_⟩⟩
  · rw [decide_eq_false (by omega)] at h; exact h
  · rw [decide_eq_false (by omega)] at h; exact h
  · rw [decide_eq_true (by omega)] at h; exact h
def isSm (v : Int) : Bool := decide (0 ≤ v ∧ v ≤ 99 ∧ 2 ≤ kirem v 10 ∧ kirem v 10 ≤ 4)
theorem t_C_isStiffAndStrands {xs : KS} {d : Nat} {v : Int} {G : KG} {I : KI} {Q : KQ} (h : Q (bi (isSm v)) G I) : kWP xs true (d) 0 0 124 0 [(0, 0, 0, v)] [] G I Q := by
  unfold isSm at h
  refine b_C_isStiffAndStrands_0 ⟨fun h1 => ?_, fun h1 => ⟨fun h2 => ?_, fun h2 => ⟨by omega, fun h3 => ?_, fun h3 => ⟨by omega, fun h4 => ?_, fun h4 => ?_⟩⟩⟩⟩
  · rw [decide_eq_false (by omega)] at h; exact h
  · rw [decide_eq_false (by omega)] at h; exact h
  · rw [decide_eq_false (by omega)] at h; exact h
  · rw [decide_eq_false (by omega)] at h; exact h
  · rw [decide_eq_true ⟨h1, h2, h3, h4⟩] at h; exact h
def sget (sh : List Shf) (v : Int) : Shf := sh.getD v.toNat none
def CShs (sh : List Shf) (I : KI) : Prop := sh.length = 6 ∧ ∀ i : Nat, i < 6 → CShf (40 + (49 + 2 * (i : Int))) (sh.getD i none) I
theorem CShs.at {sh : List Shf} {I : KI} (h : CShs sh I) {v : Int} (h0 : 0 ≤ v) (h6 : v < 6) : CShf (40 + (49 + 2 * v)) (sget sh v) I := by
  have := h.2 v.toNat (by omega)
  rw [show ((v.toNat : Nat) : Int) = v by omega] at this
  exact this
theorem CShs.fr {sh : List Shf} {I J : KI} (h : CShs sh I) (hf : ∀ a k, 89 ≤ a → a < 101 → J a k = I a k) : CShs sh J := ⟨h.1, fun i hi => (h.2 i hi).moved (fun k => hf _ _ (by omega) (by omega)) (fun k => hf _ _ (by omega) (by omega))⟩
theorem CShs.upd {sh : List Shf} {I J : KI} {v : Int} {S : Shf} (h : CShs sh I) (h0 : 0 ≤ v) (h6 : v < 6) (hS : CShf (40 + (49 + 2 * v)) S J) (hf : kfr (40 + (49 + 2 * v)) (40 + (49 + 2 * v) + 2) I J) : CShs (sh.set v.toNat S) J := by
  refine ⟨by rw [List.length_set]; exact h.1, fun i hi => ?_⟩
  by_cases hij : i = v.toNat
  · subst hij
    rw [List.getD_eq_getElem?_getD, List.getElem?_set_self (by rw [h.1]; exact hi), show ((v.toNat : Nat) : Int) = v by omega]
    exact hS
  · rw [List.getD_eq_getElem?_getD, List.getElem?_set_ne (by omega), ← List.getD_eq_getElem?_getD]
    exact (h.2 i hi).moved (fun k => hf _ _ (by omega)) (fun k => hf _ _ (by omega))
/-- the refusal of an element; 0: none -/
def shR (sh : List Shf) (v i : Int) : Int := if 0 ≤ v ∧ v < 6 then (match sget sh v with
  | none => -11
  | some (.inl _) => -12
  | some (.inr (_, l)) => if 0 ≤ i ∧ i < l.length then 0 else -13) else -1
theorem t_C_refusalOfElement {xs : KS} {d : Nat} {v i : Int} {sh : List Shf} {G : KG} {I : KI} {Q : KQ} (hS : CShs sh I) (h : Q (shR sh v i) G I) : kWP xs true (d + 1) 0 0 142 0 [(0, 18, 0, 0), (1, 0, 0, v), (2, 0, 0, i)] [] G I Q := by
  unfold shR at h
  refine b_C_refusalOfElement_0 (t_C_isShelf ⟨fun h1 => ?_, fun h1 => ?_⟩)
  · have hv : 0 ≤ v ∧ v < 6 := of_decide_eq_true (bi1 h1)
    rw [if_pos hv] at h
    have hs := hS.at hv.1 hv.2
    refine ⟨hv, ?_⟩
    cases hg : sget sh v with
    | none =>
      rw [hg] at hs h
      rw [show I (40 + (49 + 2 * v)) 1 = 0 from hs]
      exact ⟨fun hh => absurd rfl hh, fun _ => h⟩
    | some z =>
      cases z with
      | inl b =>
        rw [hg] at hs h
        rw [hs.1]
        exact ⟨fun _ => ⟨fun hh => absurd hh (by decide), fun _ => h⟩, fun hh => absurd hh (by decide)⟩
      | inr q =>
        obtain ⟨s, l⟩ := q
        rw [hg] at hs h
        rw [hs.1]
        refine ⟨fun _ => ⟨fun _ => t_Shelf_hasPlaces hs ?_ (by omega), fun hh => absurd rfl hh⟩, fun hh => absurd hh (by decide)⟩
        simp only at h
        by_cases hp : 0 ≤ i ∧ i < l.length
        · rw [if_pos hp] at h
          rw [decide_eq_true (by omega)]
          exact ⟨fun hh => absurd hh (by decide), fun _ => h⟩
        · rw [if_neg hp] at h
          rw [decide_eq_false (by omega)]
          exact ⟨fun _ => h, fun hh => absurd rfl hh⟩
  · rw [if_neg (of_decide_eq_false (bi0 h1))] at h
    exact h
