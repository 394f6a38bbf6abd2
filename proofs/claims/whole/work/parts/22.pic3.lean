/-! PICTURES made visit by visit -/
abbrev Bld : Type := List Nat × Pic
def bst (B : Bld) (nm : Nat) (o s : Bool) : Bld := if nm ∈ B.1 then (B.1, (B.2.1 ++ [(B.1.idxOf nm, o)], B.2.2)) else (B.1 ++ [nm], (B.2.1 ++ [(B.1.length, o)], B.2.2 ++ [s]))
def bs0 : Bld := ([], ([], []))
def CBld (p : Int) (B : Bld) (I : KI) : Prop := CPic p B.2 I ∧ B.1.length = B.2.2.length ∧ ∀ nm : Nat, nm < 14 → I (p + 2) nm = if nm ∈ B.1 then (B.1.idxOf nm : Int) else -1
theorem pcx_app (l : List (Nat × Bool)) (c : Nat) (o : Bool) (s t : List Bool) (k : Nat) : pcx (l ++ [(c, o)], s) k = if k = l.length then c else pcx (l, t) k := by
  unfold pcx
  simp only [List.getD_eq_getElem?_getD]
  by_cases h : k = l.length
  · rw [if_pos h, h]; simp
  · rw [if_neg h]
    by_cases h2 : k < l.length
    · rw [List.getElem?_append_left h2]
    · rw [List.getElem?_eq_none (by simp; omega), List.getElem?_eq_none (by omega)]
theorem pov_app (l : List (Nat × Bool)) (c : Nat) (o : Bool) (s t : List Bool) (k : Nat) : pov (l ++ [(c, o)], s) k = if k = l.length then o else pov (l, t) k := by
  unfold pov
  simp only [List.getD_eq_getElem?_getD]
  by_cases h : k = l.length
  · rw [if_pos h, h]; simp
  · rw [if_neg h]
    by_cases h2 : k < l.length
    · rw [List.getElem?_append_left h2]
    · rw [List.getElem?_eq_none (by simp; omega), List.getElem?_eq_none (by omega)]
theorem psg_app (l m : List (Nat × Bool)) (s : List Bool) (x : Bool) (c : Nat) : psg (l, s ++ [x]) c = if c = s.length then x else psg (m, s) c := by
  unfold psg
  simp only [List.getD_eq_getElem?_getD]
  by_cases h : c = s.length
  · rw [if_pos h, h]; simp
  · rw [if_neg h]
    by_cases h2 : c < s.length
    · rw [List.getElem?_append_left h2]
    · rw [List.getElem?_eq_none (by simp; omega), List.getElem?_eq_none (by omega)]
/-- a set's next bit -/
theorem kset31 {x m : Nat} {b : Bool} (hm : m < 31) (hx : x < 2147483648) (hb : x.testBit m = false) : ∃ y : Nat, (if b then kior (x : Int) (kishl 1 (m : Int)) else (x : Int)) = (y : Int) ∧ y < 2147483648 ∧ (x < 2 ^ (m + 1) → y < 2 ^ (m + 1)) ∧ (∀ n, m < n → x < 2 ^ n → y < 2 ^ n) ∧ ∀ k, y.testBit k = if k = m then b else x.testBit k := by
  cases b with
  | false =>
    refine ⟨x, rfl, hx, id, fun _ _ h => h, fun k => ?_⟩
    by_cases hk : k = m
    · rw [if_pos hk, hk, hb]
    · rw [if_neg hk]
  | true =>
    have hp : 2 ^ m < 2147483648 := by have := Nat.pow_lt_pow_right (a := 2) (by omega) hm; simpa using this
    refine ⟨x ||| 2 ^ m, ?_, kor_lt hx hp, fun h => ?_, fun n hn h => ?_, fun k => ?_⟩
    · rw [if_pos rfl, kishl_n hm, kior_n hx hp]
    · exact Nat.or_lt_two_pow h (Nat.pow_lt_pow_right (by omega) (by omega))
    · exact Nat.or_lt_two_pow h (Nat.pow_lt_pow_right (by omega) hn)
    · rw [Nat.testBit_or, Nat.testBit_two_pow]
      by_cases hk : k = m
      · rw [if_pos hk, hk]; simp
      · rw [if_neg hk]; simp; omega
theorem pov_ge {P : Pic} {k : Nat} (h : P.1.length ≤ k) : pov P k = false := by
  unfold pov
  simp only [List.getD_eq_getElem?_getD]
  rw [List.getElem?_eq_none h]; rfl
theorem psg_ge {P : Pic} {k : Nat} (h : P.2.length ≤ k) : psg P k = false := by
  unfold psg
  simp only [List.getD_eq_getElem?_getD]
  rw [List.getElem?_eq_none h]; rfl
theorem bld_old {p : Int} {B : Bld} {I J : KI} {nm : Nat} {o s : Bool} (hB : CBld p B I) (hnm : nm < 14) (hin : nm ∈ B.1) (hl : B.2.1.length < 14) (h5 : J p 5 = (B.2.1.length : Int) + 1) (h1 : J (p + 1) (B.2.1.length : Int) = (B.1.idxOf nm : Int))
    (h6 : J p 6 = if o then kior (I p 6) (kishl 1 (B.2.1.length : Int)) else I p 6) (hs : ∀ a k, ¬ (a = p ∧ (k = 5 ∨ k = 6)) → ¬ (a = p + 1 ∧ k = (B.2.1.length : Int)) → J a k = I a k) : CBld p (bst B nm o s) J := by
  obtain ⟨⟨c1, c2, c3, c4, c5, ⟨x, x1, x2, x3⟩, ⟨y, y1, y2, y3⟩⟩, b1, b2⟩ := hB
  have hlt : B.1.idxOf nm < B.1.length := List.idxOf_lt_length_of_mem hin
  unfold bst
  rw [if_pos hin]
  refine ⟨⟨c1, ?_, ?_, ?_, ?_, ?_, ?_⟩, b1, ?_⟩
  · simp; omega
  · rw [hs p 4 (by omega) (by omega)]; exact c3
  · rw [h5]; simp
  · intro k hk
    rw [pcx_app _ _ _ _ B.2.2]
    by_cases hkl : k = B.2.1.length
    · rw [if_pos hkl, hkl, h1]; exact ⟨rfl, by omega⟩
    · rw [if_neg hkl, hs _ _ (by omega) (by omega)]
      exact c5 k (by simp at hk; omega)
  · rw [h6, x1]
    have hb : x.testBit B.2.1.length = false := by rw [x3 _ hl]; exact pov_ge (Nat.le_refl _)
    obtain ⟨z, z1, z2, z3, z4, z5⟩ := kset31 (b := o) (by omega) (by omega) hb
    refine ⟨z, z1, z4 14 hl x2, fun k hk => ?_⟩
    rw [z5, pov_app _ _ _ _ B.2.2]
    by_cases hkl : k = B.2.1.length
    · rw [if_pos hkl, if_pos hkl]
    · rw [if_neg hkl, if_neg hkl]; exact x3 k hk
  · exact ⟨y, by rw [hs p 7 (by omega) (by omega)]; exact y1, y2, y3⟩
  · intro n hn
    rw [hs _ _ (by omega) (by omega)]; exact b2 n hn
theorem bld_new {p : Int} {B : Bld} {I J : KI} {nm : Nat} {o s : Bool} (hB : CBld p B I) (hnm : nm < 14) (hin : nm ∉ B.1) (hl : B.2.1.length < 14) (hc : B.1.length < 7) (h4 : J p 4 = (B.1.length : Int) + 1) (h5 : J p 5 = (B.2.1.length : Int) + 1) (h1 : J (p + 1) (B.2.1.length : Int) = (B.1.length : Int)) (h2 : J (p + 2) nm = (B.1.length : Int))
    (h6 : J p 6 = if o then kior (I p 6) (kishl 1 (B.2.1.length : Int)) else I p 6) (h7 : J p 7 = if s then kior (I p 7) (kishl 1 (B.1.length : Int)) else I p 7)
    (hs : ∀ a k, ¬ (a = p ∧ (k = 4 ∨ k = 5 ∨ k = 6 ∨ k = 7)) → ¬ (a = p + 1 ∧ k = (B.2.1.length : Int)) → ¬ (a = p + 2 ∧ k = (nm : Int)) → J a k = I a k) : CBld p (bst B nm o s) J := by
  obtain ⟨⟨c1, c2, c3, c4, c5, ⟨x, x1, x2, x3⟩, ⟨y, y1, y2, y3⟩⟩, b1, b2⟩ := hB
  unfold bst
  rw [if_neg hin]
  refine ⟨⟨?_, ?_, ?_, ?_, ?_, ?_, ?_⟩, ?_, ?_⟩
  · simp; omega
  · simp; omega
  · rw [h4]; simp [b1]
  · rw [h5]; simp
  · intro k hk
    rw [pcx_app _ _ _ _ B.2.2]
    by_cases hkl : k = B.2.1.length
    · rw [if_pos hkl, hkl, h1]; exact ⟨rfl, by omega⟩
    · rw [if_neg hkl, hs _ _ (by omega) (by omega) (by omega)]
      exact c5 k (by simp at hk; omega)
  · rw [h6, x1]
    have hb : x.testBit B.2.1.length = false := by rw [x3 _ hl]; exact pov_ge (Nat.le_refl _)
    obtain ⟨z, z1, z2, z3, z4, z5⟩ := kset31 (b := o) (by omega) (by omega) hb
    refine ⟨z, z1, z4 14 hl x2, fun k hk => ?_⟩
    rw [z5, pov_app _ _ _ _ B.2.2]
    by_cases hkl : k = B.2.1.length
    · rw [if_pos hkl, if_pos hkl]
    · rw [if_neg hkl, if_neg hkl]; exact x3 k hk
  · rw [h7, y1]
    have hb : y.testBit B.1.length = false := by rw [y3 _ hc]; exact psg_ge (by omega)
    obtain ⟨z, z1, z2, z3, z4, z5⟩ := kset31 (b := s) (by omega) (by omega) hb
    refine ⟨z, z1, z4 7 hc y2, fun k hk => ?_⟩
    rw [z5, psg_app _ B.2.1]
    by_cases hkl : k = B.2.2.length
    · rw [if_pos (by omega), if_pos hkl]
    · rw [if_neg (by omega), if_neg hkl]; exact y3 k hk
  · simp; omega
  · intro n hn
    by_cases hnn : n = nm
    · subst hnn
      rw [h2, if_pos (by simp), List.idxOf_append, if_neg hin]
      simp
    · rw [hs _ _ (by omega) (by omega) (by omega), b2 n hn]
      by_cases hm : n ∈ B.1
      · rw [if_pos hm, if_pos (by simp [hm]), List.idxOf_append, if_pos hm]
      · rw [if_neg hm, if_neg (by simp [hm, hnn])]
