/-! EVERY WORD, letter by letter -/
def mayR (c : Nat) : Bool → List Nat → Bool
  | _, [] => true
  | p, x :: r => and (or (not (Nat.beq x c)) p) (mayR c (not p) r)
def enP (n : Nat) : Nat → Nat → List Nat → List (Nat × List Nat)
  | 0, d, pre => [(d, pre)]
  | f + 1, d, pre => (List.range n).flatMap (fun c => cond (and (Nat.ble c d) (mayR c (Nat.beq (Nat.mod pre.length 2) 1) pre)) (enP n f (cond (Nat.beq c d) (Nat.succ d) d) (pre ++ [c])) [])
theorem mayR_t (c : Nat) : ∀ (p : Bool) (l : List Nat), (∀ j, j < l.length → l.getD j 0 = c → p = decide (j % 2 = 0)) → mayR c p l = true
  | _, [], _ => rfl
  | p, x :: r, h => by
    unfold mayR
    rw [mayR_t c (!p) r (fun j hj e => by
      have := h (j + 1) (by simpa using hj) (by rw [List.getD_cons_succ]; exact e)
      rw [this]
      by_cases g : j % 2 = 0
      · rw [decide_eq_false (by omega), decide_eq_true g]; rfl
      · rw [decide_eq_true (by omega), decide_eq_false g]; rfl)]
    cases hb : Nat.beq x c with
    | false => rfl
    | true =>
      have := h 0 (by simp) (Nat.eq_of_beq_eq_true hb)
      rw [this]; rfl
theorem nubF_pre : ∀ (l D : List Nat), D <+: nubF D l
  | [], D => List.prefix_rfl
  | x :: r, D => by
    unfold nubF
    split
    · exact nubF_pre r D
    · exact List.IsPrefix.trans (List.prefix_append D [x]) (nubF_pre r _)
theorem en_all {n : Nat} {w : List Nat} (hp : ParL w) : ∀ (f d : Nat) (pre rest : List Nat), pre ++ rest = w → f ≤ rest.length → nubF (List.range d) rest = List.range n → ∃ d', (d', w.take (pre.length + f)) ∈ enP n f d pre ∧ nubF (List.range d') (rest.drop f) = List.range n
  | 0, d, pre, rest, hw, hf, hn => ⟨d, by
    rw [Nat.add_zero, ← hw, List.take_left']
    · exact List.mem_singleton.mpr rfl
    · rfl, by rw [List.drop_zero]; exact hn⟩
  | f + 1, d, pre, [], hw, hf, hn => absurd hf (by simp)
  | f + 1, d, pre, c :: r, hw, hf, hn => by
    have hstep : c ≤ d ∧ c < n ∧ nubF (List.range (cond (Nat.beq c d) (d + 1) d)) r = List.range n := by
      unfold nubF at hn
      by_cases hc : c ∈ List.range d
      · rw [if_pos hc] at hn
        have h1 := List.mem_range.mp hc
        have hb : Nat.beq c d = false := by
          cases hb : Nat.beq c d with
          | false => rfl
          | true => have := Nat.eq_of_beq_eq_true hb; omega
        have h2 := List.IsPrefix.length_le (nubF_pre r (List.range d))
        rw [hn, List.length_range, List.length_range] at h2
        rw [hb]
        exact ⟨by omega, by omega, hn⟩
      · rw [if_neg hc] at hn
        have h2 := nubF_pre r (List.range d ++ [c])
        rw [hn] at h2
        have h3 := List.IsPrefix.length_le h2
        rw [List.length_append, List.length_range, List.length_range] at h3
        simp only [List.length_cons, List.length_nil] at h3
        obtain ⟨t, ht⟩ := h2
        have h4 : (List.range n)[d]? = some c := by
          rw [← ht, List.append_assoc, List.getElem?_append_right (by simp)]
          simp
        rw [List.getElem?_range (by omega)] at h4
        have hcd : d = c := Option.some.inj h4
        subst hcd
        rw [Nat.beq_refl]
        refine ⟨Nat.le_refl _, by omega, ?_⟩
        show nubF (List.range (d + 1)) r = _
        rw [List.range_succ]
        exact hn
    obtain ⟨g1, g2, g3⟩ := hstep
    have hml : pre.length < w.length := by rw [← hw]; simp
    have hmay : mayR c (Nat.beq (Nat.mod pre.length 2) 1) pre = true := mayR_t c _ pre (fun j hj e => by
      have e1 : w.getD j 0 = c := by
        rw [← hw, List.getD_eq_getElem?_getD, List.getElem?_append_left hj, ← List.getD_eq_getElem?_getD]
        exact e
      have e2 : w.getD pre.length 0 = c := by
        rw [← hw, List.getD_eq_getElem?_getD, List.getElem?_append_right (Nat.le_refl _), Nat.sub_self]
        rfl
      have h5 := hp j pre.length (by omega) hml (by omega) (by rw [e1, e2])
      show Nat.beq (pre.length % 2) 1 = _
      by_cases g : j % 2 = 0
      · rw [decide_eq_true g, show pre.length % 2 = 1 by omega]; rfl
      · rw [decide_eq_false g, show pre.length % 2 = 0 by omega]; rfl)
    obtain ⟨d', i1, i2⟩ := en_all hp f (cond (Nat.beq c d) (d + 1) d) (pre ++ [c]) r (by rw [List.append_assoc]; exact hw) (by simpa using hf) g3
    refine ⟨d', ?_, i2⟩
    rw [List.length_append] at i1
    rw [show pre.length + (f + 1) = pre.length + [c].length + f by simp; omega]
    refine List.mem_flatMap.mpr ⟨c, List.mem_range.mpr g2, ?_⟩
    rw [Nat.ble_eq_true_of_le g1, hmay]
    exact i1
def trs (n : Nat) : List Nat := match n with
  | 1 => [0]
  | 2 => [0]
  | 3 => [0, 1]
  | 4 => [0, 2, 1]
  | 5 => [4, 0, 1, 6, 5, 2, 3]
  | 6 => [8, 12, 10, 0, 5, 2, 6, 3, 1, 4]
  | _ => [24, 16, 20, 10, 25, 41, 12, 6, 0, 9, 49, 21, 4, 11, 5, 13, 50, 28, 2, 1, 8, 22, 44, 42, 7, 19]
def okl (n : Nat) (w : List Nat) : Bool := or ((trs n).any (fun s => chk n (kyI (Nat.mul 2 n) (Nat.mul 2 n)) w s)) (decide (w ∈ badW))
theorem trs_lt : ∀ n, n < 8 → ∀ s ∈ trs n, n = 0 ∨ s < 2 ^ n := by decide +kernel
theorem okl_6 : ∀ n, n < 7 → n = 0 ∨ ((enP n (2 * n) 0 []).all (fun q => okl n q.2)) = true := by decide +kernel
