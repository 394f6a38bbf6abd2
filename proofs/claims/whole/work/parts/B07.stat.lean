/-! THE START: the statics, the classes, the script, out of what the claim gives of the start -/
def chvL : List Int := (List.range 64).map (fun q => if q % 8 ≤ q / 8 then ((chs (q / 8) (q % 8) : Nat) : Int) else 0)
def stL (i : Nat) : List Int := match i with
  | 0 => chvL
  | 1 => abvL
  | _ => ownL
def stW (C n : String) (L : List Int) : Prop := (Cond.arrayOf (.static C n "[I") .int) ∈ flatC (Jvm.Cond.and given_1 narrow_1) ∧ (Cond.eq (.length (.static C n "[I")) (.int (Int32.ofNat L.length))) ∈ flatC (Jvm.Cond.and given_1 narrow_1) ∧ ∀ j, j < L.length → (Cond.eq (.elem (.static C n "[I") (.int (Int32.ofNat j))) (.int (Int32.ofInt (L.getD j 0)))) ∈ flatC (Jvm.Cond.and given_1 narrow_1)
theorem stW_0 : stW RX6 "CHOOSE" chvL := ⟨by decide +kernel, by decide +kernel, by decide +kernel⟩
theorem stW_1 : stW RX2 "ABOVE" abvL := ⟨by decide +kernel, by decide +kernel, by decide +kernel⟩
theorem stW_2 : stW RX2 "OWN" ownL := ⟨by decide +kernel, by decide +kernel, by decide +kernel⟩
theorem st_row {args : Array Value} {s : State} {C n : String} {L : List Int} (hg : (Jvm.Cond.and given_1 narrow_1).before args s = true) (hts : ∀ w ∈ lw_tbl, w.before args s = true) (hw : stW C n L) (hL : L.length < 2 ^ 31) (h1 : (Cond.laysStatic C n "[I") ∈ lw_tbl) (h2 : (Cond.initialized C) ∈ lw_tbl) {A : Nat → Prop} (hA : ∀ a : Nat, a < s.heap.size → ¬ A a) :
    ∃ t : Nat, va_Z C n "[I" (.ref t) A s s.heap ∧ va_T .int t L.length (fun j => .int (Int32.ofInt (L.getD j 0))) A s s.heap := by
  have hs := flat_of_before _ hg
  obtain ⟨t, e1, e2⟩ := va_Tof (f := fun j => .int (Int32.ofInt (L.getD j 0))) hL (hs _ hw.1) (va_eqt (hs _ hw.2.1)) (fun j hj => va_eqt (hs _ (hw.2.2 j hj))) hA
  exact ⟨t, va_Zref (hts _ h1) (hts _ h2) e1 hA, e2⟩
def clN (c : Nat) : Nat := match c with
  | 0 => 3 | 1 => 11 | 2 => 6 | 3 => 8 | 4 => 8 | 5 => 5 | 6 => 7 | 7 => 2 | 8 => 13 | _ => 47
theorem cl_in : ∀ c, c < 10 → ∀ q, kcl[c]? = some q → Cond.instantiable q.1 (clN c) ∈ tables_1 := by
  have h : ∀ c, c < 10 → (match kcl[c]? with | some q => decide (Cond.instantiable q.1 (clN c) ∈ tables_1) | none => true) = true := by decide +kernel
  intro c hc q hq
  have := h c hc
  rw [hq] at this
  exact of_decide_eq_true this
theorem tb_in {w : Cond} (h : w ∈ tables_1) : w ∈ lw_tbl := List.mem_append_right _ h
theorem st_cls {args : Array Value} {s : State} (hts : ∀ w ∈ lw_tbl, w.before args s = true) : ∃ D : va_G, ∀ (c : Nat) (q : vw_C), kcl[c]? = some q → u_Kn s q.1 q.2.1 q.2.2 (D.1 c) (D.2 c) := by
  have h : ∀ c : Nat, ∃ y : ClassId × (Nat → Nat), ∀ q : vw_C, kcl[c]? = some q → u_Kn s q.1 q.2.1 q.2.2 y.1 y.2 := by
    intro c
    cases hq : kcl[c]? with
    | none => exact ⟨(0, fun _ => 0), fun q h => by cases h⟩
    | some q =>
      have hc : c < 10 := (List.getElem?_eq_some_iff.mp hq).1
      obtain ⟨a, b, k⟩ := u_known (ws := kWords) (C := q.1) (T := q.2.1) (N := q.2.2) (fun w hw => hts w (List.mem_filter.mp hw).1) (kIn c q hq) (hts _ (tb_in (cl_in c hc q hq)))
      exact ⟨(a, b), fun q' h => by cases h; exact k⟩
  exact ⟨(fun c => (Classical.choose (h c)).1, fun c => (Classical.choose (h c)).2), fun c q hq => Classical.choose_spec (h c) q hq⟩
theorem st_arr {args : Array Value} {s : State} {ty : FieldType} (h : (Cond.arrayClass ty).before args s = true) (hn : ∀ C, ty ≠ .object C) : ∃ cA : ClassId, ArrOfT s cA ty ∧ va_RA s cA ty := by
  obtain ⟨cA, kA, comp, h1, h2, h3⟩ := Cond.arrayClass_spec h
  refine ⟨cA, fun n z => ⟨fun k h => (by cases h), kA, h2, comp, h3⟩, ?_⟩
  cases ty with
  | object C => exact absurd rfl (hn C)
  | _ => exact h1
theorem st_arq {args : Array Value} {s : State} {C : String} (h : (Cond.arrayOver (.object C)).before args s = true) : ∃ cA : ClassId, ArrOfT s cA (.object C) ∧ va_RA s cA (.object C) := by
  obtain ⟨comp, cA, kA, h1, h2, h3, h4, h5⟩ := Cond.arrayOver_spec h
  exact ⟨cA, fun n z => ⟨fun k h => (by cases h), kA, h3, comp, h4⟩, kA, comp, h3, h4, h1, h5⟩
def stXs (L : Nat) (ys : Nat → Int32) : KS := fun i => if i < 3 then ((stL i).length, fun k => (stL i).getD k.toNat 0) else (L, fun k => (ys k.toNat).toInt)
theorem i32_b (z : Int32) : -2147483648 ≤ z.toInt ∧ z.toInt < 2147483648 := ⟨z.le_toInt, z.toInt_lt⟩
theorem stXs_all {L : Nat} {ys : Nat → Int32} (hL : L ≤ 384) : XAll (stXs L ys) ∧ kXs (stXs L ys) := by
  have h0 : (stXs L ys 0) = (chvL.length, fun k => chvL.getD k.toNat 0) := rfl
  have h1 : (stXs L ys 1) = (abvL.length, fun k => abvL.getD k.toNat 0) := rfl
  have h2 : (stXs L ys 2) = (ownL.length, fun k => ownL.getD k.toNat 0) := rfl
  have h3 : (stXs L ys 3) = (L, fun k => (ys k.toNat).toInt) := rfl
  have c0 : ∀ t, t < 8 → ∀ i, i < t + 1 → chvL.getD (8 * t + i) 0 = ((chs t i : Nat) : Int) := by decide +kernel
  have c1 : ∀ k, k < 8 → abvL.getD k 0 < 8 := by decide +kernel
  have cb : ∀ i, i < 3 → ∀ k, k < (stL i).length → -2147483648 ≤ (stL i).getD k 0 ∧ (stL i).getD k 0 < 2147483648 := by decide +kernel
  refine ⟨⟨by rw [h0]; decide +kernel, fun t i ht hi => ?_, ⟨by rw [h1]; rfl, fun k _ => by rw [h1]; rfl, by rw [h2]; rfl, fun k _ => by rw [h2]; rfl⟩, ⟨by rw [h1]; rfl, fun k hk hk8 => ?_⟩, by rw [h3]; show (L : Int) < _; omega, fun k _ _ => by rw [h3]; exact i32_b _⟩, fun i hi => ?_⟩
  · rw [h0]
    have e : (8 * (t : Int) + (i : Int)).toNat = 8 * t + i := by omega
    show chvL.getD (8 * (t : Int) + (i : Int)).toNat 0 = _
    rw [e]
    exact c0 t ht i (by omega)
  · rw [h1]
    exact c1 k.toNat (by omega)
  · by_cases h : i < 3
    · have e : stXs L ys i = ((stL i).length, fun k => (stL i).getD k.toNat 0) := if_pos h
      rw [e]
      refine ⟨?_, fun j hj => cb i h j hj⟩
      have : ∀ i, i < 3 → (stL i).length < 2147483648 := by decide +kernel
      exact this i h
    · obtain rfl : i = 3 := by omega
      rw [h3]
      exact ⟨by show L < _; omega, fun j _ => i32_b _⟩
theorem st_ne : (∀ C, FieldType.int ≠ .object C) ∧ (∀ C, FieldType.long ≠ .object C) ∧ (∀ C, FieldType.byte ≠ .object C) ∧ (∀ C, FieldType.boolean ≠ .object C) := ⟨fun C h => (by cases h), fun C h => (by cases h), fun C h => (by cases h), fun C h => (by cases h)⟩
theorem st_world {args : Array Value} {s : State} {b L : Nat} {ys : Nat → Int32} (hL : L ≤ 384) (hts : ∀ w ∈ lw_tbl, w.before args s = true) (hX : va_X b L ys s s.heap) (hb : b < s.heap.size) (hg : (Jvm.Cond.and given_1 narrow_1).before args s = true) :
    ∃ X : KX, X.1 = s.heap.size ∧ X.2.2.2 3 = b ∧ kWorld (stXs L ys) X s := by
  have hA : ∀ a : Nat, a < s.heap.size → ¬ (fun q : Nat => s.heap.size ≤ q) a := fun a h => Nat.not_le.mpr h
  obtain ⟨D, hD⟩ := st_cls hts
  obtain ⟨t0, z0, r0⟩ := st_row hg hts stW_0 (by decide +kernel) (tb_in (by decide +kernel)) (tb_in (by decide +kernel)) hA
  obtain ⟨t1, z1, r1⟩ := st_row hg hts stW_1 (by decide +kernel) (tb_in (by decide +kernel)) (tb_in (by decide +kernel)) hA
  obtain ⟨t2, z2, r2⟩ := st_row hg hts stW_2 (by decide +kernel) (tb_in (by decide +kernel)) (tb_in (by decide +kernel)) hA
  obtain ⟨a4, p4, q4⟩ := st_arr (ty := .int) (hts _ (tb_in (by decide +kernel))) st_ne.1
  obtain ⟨a5, p5, q5⟩ := st_arr (ty := .long) (hts _ (tb_in (by decide +kernel))) st_ne.2.1
  obtain ⟨a6, p6, q6⟩ := st_arr (ty := .byte) (hts _ (tb_in (by decide +kernel))) st_ne.2.2.1
  obtain ⟨a7, p7, q7⟩ := st_arr (ty := .boolean) (hts _ (tb_in (by decide +kernel))) st_ne.2.2.2
  have o3 : (Cond.arrayOver (.object RX3)).before args s = true := hts _ (tb_in (by decide +kernel))
  have o5 : (Cond.arrayOver (.object RX5)).before args s = true := hts _ (tb_in (by decide +kernel))
  obtain ⟨a8, p8, q8⟩ := st_arq o3
  obtain ⟨a9, p9, q9⟩ := st_arq o5
  refine ⟨(s.heap.size, D, fun k => if k = 4 then a4 else if k = 5 then a5 else if k = 6 then a6 else if k = 7 then a7 else if k = 8 then a8 else a9, fun i => if i = 0 then t0 else if i = 1 then t1 else if i = 2 then t2 else b), rfl, rfl, ⟨hD, fun k q hq => ?_⟩, ⟨fun w hw => ?_, va_AO.of o3, va_AO.of o5⟩, fun i hi => ?_, fun i hi => ?_⟩
  · match k, hq with
    | 0, hq => cases hq; exact ⟨p4, q4⟩
    | 1, hq => cases hq; exact ⟨p5, q5⟩
    | 2, hq => cases hq; exact ⟨p6, q6⟩
    | 3, hq => cases hq; exact ⟨p7, q7⟩
    | 4, hq => cases hq; exact ⟨p8, q8⟩
    | 5, hq => cases hq; exact ⟨p9, q9⟩
    | k + 6, hq => simp at hq
  · have h := List.mem_filter.mp hw
    have hw2 := hts w (tb_in h.1)
    have ho : w.onTables = true := by
      obtain ⟨-, h2⟩ := h
      clear hw2 hw
      cases w <;> first | rfl | (exact Bool.noConfusion h2)
    exact va_Nw.of ho hw2
  · match i, hi with
    | 0, _ => exact z0
    | 1, _ => exact z1
    | 2, _ => exact z2
  · match i, hi with
    | 0, _ => exact r0
    | 1, _ => exact r1
    | 2, _ => exact r2
    | 3, _ =>
      obtain ⟨scr, x1, x2, x3, x4, x5⟩ := hX
      refine ⟨scr, x1, x2, x3, ?_, ?_, fun j hj => ?_, hA b hb⟩
      · show L ≤ _
        omega
      · show Nat.toInt32 _ = Int32.ofNat L
        rw [x4]
      · rw [x5 j hj]
        show some (Value.int (ys j)) = some (Value.int (Int32.ofInt (ys j).toInt))
        rw [Int32.ofInt_toInt]
