/-! PLAIN SIGNS: ends of arcs and their mates, five bits an end, in one number; the sum over all ways by crossings, like states put together -/
def mte (key e : Nat) : Nat := Nat.land (Nat.shiftRight key (Nat.mul 5 e)) 31
def xdg (key v j : Nat) : Nat := Nat.xor key (Nat.shiftLeft v (Nat.mul 5 j))
theorem mte_b (key e t : Nat) : (mte key e).testBit t = (key.testBit (5 * e + t) && decide (t < 5)) := by
  show ((key >>> (5 * e)) &&& 31).testBit t = _
  rw [Nat.testBit_and, Nat.testBit_shiftRight, show (31 : Nat) = 2 ^ 5 - 1 by decide, Nat.testBit_two_pow_sub_one]
theorem mte_x {key v j : Nat} (hv : v < 32) (i : Nat) : mte (xdg key v j) i = mte key i ^^^ (if i = j then v else 0) := by
  apply Nat.eq_of_testBit_eq
  intro t
  have e1 : (xdg key v j).testBit (5 * i + t) = (key.testBit (5 * i + t) ^^ (decide (5 * j ≤ 5 * i + t) && v.testBit (5 * i + t - 5 * j))) := by
    show (key ^^^ (v <<< (5 * j))).testBit (5 * i + t) = _
    rw [Nat.testBit_xor, Nat.testBit_shiftLeft]
  rw [mte_b, Nat.testBit_xor, mte_b, e1]
  by_cases ht : t < 5
  · rw [decide_eq_true ht, Bool.and_true, Bool.and_true]
    congr 1
    by_cases hij : i = j
    · subst hij
      rw [if_pos rfl, decide_eq_true (by omega), Bool.true_and, show 5 * i + t - 5 * i = t by omega]
    · rw [if_neg hij, Nat.zero_testBit]
      by_cases hl : i < j
      · rw [decide_eq_false (by omega), Bool.false_and]
      · have h5 : v.testBit (5 * i + t - 5 * j) = false := Nat.testBit_lt_two_pow (Nat.lt_of_lt_of_le hv (show 2 ^ 5 ≤ 2 ^ (5 * i + t - 5 * j) from Nat.pow_le_pow_right (by omega) (by omega)))
        rw [h5, Bool.and_false]
  · rw [decide_eq_false ht, Bool.and_false, Bool.and_false, Bool.false_xor]
    split
    · exact (Nat.testBit_lt_two_pow (Nat.lt_of_lt_of_le hv (show 2 ^ 5 ≤ 2 ^ t from Nat.pow_le_pow_right (by omega) (by omega)))).symm
    · exact (Nat.zero_testBit t).symm
theorem mte_ne {key v j i : Nat} (hv : v < 32) (h : i ≠ j) : mte (xdg key v j) i = mte key i := by rw [mte_x hv, if_neg h, Nat.xor_zero]
theorem mte_at {key v i : Nat} (hv : v < 32) : mte (xdg key v i) i = mte key i ^^^ v := by rw [mte_x hv, if_pos rfl]
/-- two ends are joined -/
def jk (key e f : Nat) : Nat := cond (Nat.beq (mte key e) f) (xdg (xdg key f e) e f)
  (xdg (xdg (xdg (xdg key (Nat.xor e (mte key f)) (mte key e)) (Nat.xor f (mte key e)) (mte key f)) (mte key e) e) (mte key f) f)
/-- the open ends F, their mates by the key, the labels r of the ends -/
def MRel (F : Nat → Prop) (key : Nat) (r : Nat → Nat) : Prop := ∀ e, F e → e < 32 ∧ F (mte key e) ∧ mte key e ≠ e ∧ mte key (mte key e) = e ∧ ∀ d, F d → (r e = r d ↔ d = e ∨ d = mte key e)
theorem xor_lt32 {a b : Nat} (ha : a < 32) (hb : b < 32) : a ^^^ b < 32 := Nat.xor_lt_two_pow (n := 5) ha hb
theorem xor_self2 (a b : Nat) : a ^^^ (a ^^^ b) = b := by rw [← Nat.xor_assoc, Nat.xor_self, Nat.zero_xor]
theorem MRel.eq {F : Nat → Prop} {key : Nat} {r : Nat → Nat} (h : MRel F key r) {e f : Nat} (he : F e) (hf : F f) (hne : e ≠ f) : Nat.beq (mte key e) f = true ↔ r e = r f := by
  rw [show Nat.beq (mte key e) f = true ↔ mte key e = f from ⟨Nat.eq_of_beq_eq_true, fun hh => by rw [hh]; exact Nat.beq_refl f⟩, (h e he).2.2.2.2 f hf]
  constructor
  · intro hh; exact Or.inr hh.symm
  · rintro (hh | hh)
    · exact absurd hh.symm hne
    · exact hh.symm
theorem MRel.jo {F : Nat → Prop} {key : Nat} {r : Nat → Nat} (h : MRel F key r) {e f : Nat} (he : F e) (hf : F f) (hne : e ≠ f) : MRel (fun z => F z ∧ z ≠ e ∧ z ≠ f) (jk key e f) (fun z => if r z = r e then r f else r z) := by
  obtain ⟨e1, e2, e3, e4, e5⟩ := h e he
  obtain ⟨f1, f2, f3, f4, f5⟩ := h f hf
  unfold jk
  cases hb : Nat.beq (mte key e) f with
  | true =>
    have hm : mte key e = f := Nat.eq_of_beq_eq_true hb
    have hr : r e = r f := (e5 f hf).mpr (Or.inr hm.symm)
    intro z ⟨hz, ze, zf⟩
    obtain ⟨z1, z2, z3, z4, z5⟩ := h z hz
    have key1 : mte (cond true (xdg (xdg key f e) e f) (xdg (xdg (xdg (xdg key (Nat.xor e (mte key f)) (mte key e)) (Nat.xor f (mte key e)) (mte key f)) (mte key e) e) (mte key f) f)) z = mte key z := by
      show mte (xdg (xdg key f e) e f) z = _
      rw [mte_ne e1 zf, mte_ne f1 ze]
    have hze : mte key z ≠ e := fun hh => zf (by rw [hh] at z4; rw [← z4, hm])
    have hzf : mte key z ≠ f := fun hh => ze (by rw [hh] at z4; rw [← z4, ← hm, e4])
    have key2 : mte (cond true (xdg (xdg key f e) e f) (xdg (xdg (xdg (xdg key (Nat.xor e (mte key f)) (mte key e)) (Nat.xor f (mte key e)) (mte key f)) (mte key e) e) (mte key f) f)) (mte key z) = z := by
      show mte (xdg (xdg key f e) e f) (mte key z) = _
      rw [mte_ne e1 hzf, mte_ne f1 hze, z4]
    refine ⟨z1, ?_⟩
    rw [key1]
    refine ⟨⟨z2, hze, hzf⟩, z3, key2, fun d ⟨hd, _, _⟩ => ?_⟩
    rw [← z5 d hd]
    have id1 : ∀ x, (if r x = r e then r f else r x) = r x := fun x => by
      split
      · rename_i g; rw [← hr, g]
      · rfl
    show (if r z = r e then r f else r z) = (if r d = r e then r f else r d) ↔ _
    rw [id1, id1]
  | false =>
    have hxf : mte key e ≠ f := fun hh => by rw [hh, Nat.beq_refl] at hb; cases hb
    have hye : mte key f ≠ e := fun hh => hxf (by rw [hh] at f4; exact f4)
    have hxy : mte key e ≠ mte key f := fun hh => hne (by rw [← e4, ← f4, hh])
    generalize hx : mte key e = x at *
    generalize hy : mte key f = y at *
    have x1 : x < 32 := (h x e2).1
    have y1 : y < 32 := (h y f2).1
    have v1 : Nat.xor e y < 32 := xor_lt32 e1 y1
    have v2 : Nat.xor f x < 32 := xor_lt32 f1 x1
    have hk : ∀ z, z ≠ e → z ≠ f → mte (cond false (xdg (xdg key f e) e f) (xdg (xdg (xdg (xdg key (Nat.xor e y) x) (Nat.xor f x) y) x e) y f)) z = if z = x then y else if z = y then x else mte key z := fun z ze zf => by
      show mte (xdg (xdg (xdg (xdg key (Nat.xor e y) x) (Nat.xor f x) y) x e) y f) z = _
      rw [mte_ne y1 zf, mte_ne x1 ze]
      by_cases zx : z = x
      · subst zx
        rw [if_pos rfl, mte_ne v2 hxy, mte_at v1, e4]
        exact xor_self2 e y
      · rw [if_neg zx]
        by_cases zy : z = y
        · subst zy
          rw [if_pos rfl, mte_at v2, mte_ne v1 zx, f4]
          exact xor_self2 f x
        · rw [if_neg zy, mte_ne v2 zy, mte_ne v1 zx]
    have hx2 : x ≠ e := e3
    have hy2 : y ≠ f := f3
    -- classes: of e are e and x, of f are f and y
    have ce : ∀ d, F d → (r d = r e ↔ d = e ∨ d = x) := fun d hd => by rw [eq_comm, e5 d hd]
    have cf : ∀ d, F d → (r d = r f ↔ d = f ∨ d = y) := fun d hd => by rw [eq_comm, f5 d hd]
    intro z ⟨hz, ze, zf⟩
    obtain ⟨z1, z2, z3, z4, z5⟩ := h z hz
    refine ⟨z1, ?_⟩
    rw [hk z ze zf]
    have inj : ∀ d, F d → mte key d = mte key z → d = z := fun d hd hh => by rw [← (h d hd).2.2.2.1, hh, z4]
    by_cases zx : z = x
    · subst zx
      rw [if_pos rfl]
      refine ⟨⟨f2, hye, hy2⟩, fun hh => hxy hh.symm, ?_, fun d ⟨hd, de, df⟩ => ?_⟩
      · rw [hk y hye hy2, if_neg (fun hh => hxy hh.symm), if_pos rfl]
      · show (if r z = r e then r f else r z) = (if r d = r e then r f else r d) ↔ _
        rw [if_pos ((ce z hz).mpr (Or.inr rfl))]
        by_cases hd1 : r d = r e
        · rw [if_pos hd1]
          have := (ce d hd).mp hd1
          exact ⟨fun _ => Or.inl (this.resolve_left de), fun _ => rfl⟩
        · rw [if_neg hd1]
          constructor
          · intro hh; exact Or.inr (((cf d hd).mp hh.symm).resolve_left df)
          · rintro (hh | hh)
            · exact absurd ((ce d hd).mpr (Or.inr hh)) hd1
            · exact ((cf d hd).mpr (Or.inr hh)).symm
    · rw [if_neg zx]
      have nze : ¬ r z = r e := fun hh => ((ce z hz).mp hh).elim ze zx
      by_cases zy : z = y
      · subst zy
        rw [if_pos rfl]
        refine ⟨⟨e2, hx2, hxf⟩, hxy, ?_, fun d ⟨hd, de, df⟩ => ?_⟩
        · rw [hk x hx2 hxf, if_pos rfl]
        · show (if r z = r e then r f else r z) = (if r d = r e then r f else r d) ↔ _
          rw [if_neg nze, (cf z hz).mpr (Or.inr rfl)]
          by_cases hd1 : r d = r e
          · rw [if_pos hd1]
            exact ⟨fun _ => Or.inr (((ce d hd).mp hd1).resolve_left de), fun _ => rfl⟩
          · rw [if_neg hd1]
            constructor
            · intro hh; exact Or.inl (((cf d hd).mp hh.symm).resolve_left df)
            · rintro (hh | hh)
              · exact ((cf d hd).mpr (Or.inr hh)).symm
              · exact absurd ((ce d hd).mpr (Or.inr hh)) hd1
      · rw [if_neg zy]
        have nzf : ¬ r z = r f := fun hh => ((cf z hz).mp hh).elim zf zy
        have me : mte key z ≠ e := fun hh => zx (by rw [← z4, hh, hx])
        have mf : mte key z ≠ f := fun hh => zy (by rw [← z4, hh, hy])
        have mx : mte key z ≠ x := fun hh => ze (by rw [← z4, hh, e4])
        have my : mte key z ≠ y := fun hh => zf (by rw [← z4, hh, f4])
        refine ⟨⟨z2, me, mf⟩, z3, ?_, fun d ⟨hd, de, df⟩ => ?_⟩
        · rw [hk _ me mf, if_neg mx, if_neg my, z4]
        · show (if r z = r e then r f else r z) = (if r d = r e then r f else r d) ↔ _
          rw [if_neg nze, ← z5 d hd]
          by_cases hd1 : r d = r e
          · rw [if_pos hd1]
            exact ⟨fun hh => absurd hh nzf, fun hh => absurd (hh.trans hd1) nze⟩
          · rw [if_neg hd1]
