/-! PICTURES: faces, moves, parts: the class's own way -/
def aft (m k : Nat) : Nat := if k + 1 < m then k + 1 else 0
def bef (m k : Nat) : Nat := if 0 < k then k - 1 else m - 1
def nof (P : Pic) (w : Nat) : Nat :=
  let on := decide (w % 2 = 0)
  let v := if on then aft P.1.length (w / 2) else w / 2
  let e := (if pov P v then 0 else 1) + (if on then 0 else 2)
  let nx := (e + (if psg P (pcx P v) then 1 else 3)) % 4
  let ot := agn P v
  if 2 ≤ nx then 2 * ot else 2 * bef P.1.length ot + 1
theorem t_Picture_after' {xs : KS} {d : Nat} {p : Int} {k m : Nat} {G : KG} {I : KI} {Q : KQ} (hP : I p 5 = (m : Int)) (hm : m ≤ 14) (hk : k < m) (h : Q (aft m k : Int) G I) : kWP xs true (d) 0 0 39 0 [(0, 13, 0, p), (1, 0, 0, (k : Int))] [] G I Q := by
  refine t_Picture_after hP hm (by omega) ?_
  unfold aft at h
  by_cases h1 : k + 1 < m
  · rw [if_pos h1] at h; rw [if_pos (by omega)]; exact h
  · rw [if_neg h1] at h; rw [if_neg (by omega)]; exact h
theorem t_Picture_before' {xs : KS} {d : Nat} {p : Int} {k m : Nat} {G : KG} {I : KI} {Q : KQ} (hP : I p 5 = (m : Int)) (hm : m ≤ 14) (hk : k < m) (h : Q (bef m k : Int) G I) : kWP xs true (d) 0 0 40 0 [(0, 13, 0, p), (1, 0, 0, (k : Int))] [] G I Q := by
  refine t_Picture_before hP hm (by omega) ?_
  unfold bef at h
  by_cases h1 : 0 < k
  · rw [if_pos h1] at h; rw [if_pos (by omega)]; rw [show (k : Int) - 1 = ((k - 1 : Nat) : Int) by omega]; exact h
  · rw [if_neg h1] at h; rw [if_neg (by omega)]; rw [show (m : Int) - 1 = ((m - 1 : Nat) : Int) by omega]; exact h
theorem aft_lt {m k : Nat} (h : 0 < m) : aft m k < m := by unfold aft; split <;> omega
theorem bef_lt {m k : Nat} (h : k < m) : bef m k < m := by unfold bef; split <;> omega
theorem agn_lt {P : Pic} {k : Nat} (h : k < P.1.length) : agn P k < P.1.length := by
  unfold agn
  simp only
  split <;> omega
theorem kand3 : ∀ n : Nat, n < 8 → kiand (n : Int) 3 = ((n % 4 : Nat) : Int) := by decide +kernel
theorem nof_tail {xs : KS} {d : Nat} {p : Int} {P : Pic} {v n : Nat} {G : KG} {I : KI} {Q : KQ} (hP : CPic p P I) (hv : v < P.1.length) (hn : n < 8) (h : Q ((if 2 ≤ n % 4 then 2 * agn P v else 2 * bef P.1.length (agn P v) + 1 : Nat) : Int) G I) :
    kWP xs true (d) 0 0 41 0 [(0, 13, 0, p), (1, 0, 0, (v : Int))] [] G I (fun r2 G2 I2 => (2 ≤ (kiand (n : Int) 3) → Q (w32 (2 * r2)) G2 I2) ∧ ((kiand (n : Int) 3) < 2 → kWP xs true (d) 0 0 40 0 [(0, 13, 0, p), (1, 0, 0, r2)] [] G2 I2 (fun r3 G3 I3 => Q (w32 ((w32 (2 * r3)) + 1)) G3 I3))) := by
  have hl := hP.2.1
  have ha := agn_lt hv
  have hb := bef_lt ha
  refine t_Picture_again hP hv ?_
  rw [kand3 n hn]
  refine ⟨fun h1 => ?_, fun h1 => ?_⟩
  · rw [if_pos (by omega)] at h
    rw [w32_id (by omega) (by omega)]
    rw [show (2 * (agn P v : Int)) = ((2 * agn P v : Nat) : Int) by omega]
    exact h
  · rw [if_neg (by omega)] at h
    refine t_Picture_before' hP.2.2.2.1 hl ha ?_
    rw [w32_id (x := 2 * _) (by omega) (by omega), w32_id (by omega) (by omega)]
    rw [show (2 * (bef P.1.length (agn P v) : Int) + 1) = ((2 * bef P.1.length (agn P v) + 1 : Nat) : Int) by omega]
    exact h
theorem t_Picture_nextOfFace {xs : KS} {d : Nat} {p : Int} {P : Pic} {w : Nat} {G : KG} {I : KI} {Q : KQ} (hP : CPic p P I) (hw : w < 2 * P.1.length) (h : Q (nof P w : Int) G I) : kWP xs true (d + 1) 0 0 59 0 [(0, 13, 0, p), (1, 0, 0, (w : Int))] [] G I Q := by
  have hl := hP.2.1
  have hm : 0 < P.1.length := by omega
  have last : ∀ (on : Bool) (v e0 : Nat), v < P.1.length → e0 = (if pov P v then 0 else 1) → Q ((if 2 ≤ (e0 + (if on then 0 else 2) + (if psg P (pcx P v) then 1 else 3)) % 4 then 2 * agn P v else 2 * bef P.1.length (agn P v) + 1 : Nat) : Int) G I → kWP xs true (d + 1) 0 0 59 43 [(0, 13, 0, p), (2, 0, 0, bi on), (3, 0, 0, (v : Int))] [(0, 0, (e0 : Int))] G I Q := by
    intro on v e0 hv he0 hq
    have hc := hP.2.2.2.2.1 v hv
    have he1 : e0 ≤ 1 := by rw [he0]; split <;> omega
    refine b_Picture_nextOfFace_43 ?_
    rw [hc.1]
    refine ⟨fun h1 => ⟨⟨by omega, by omega⟩, ?_⟩, fun h1 => ⟨⟨by omega, by omega⟩, ?_⟩⟩
    · have hon : on = false := by cases on <;> simp [bi] at h1 ⊢
      rw [hon] at hq
      simp only [Bool.false_eq_true, if_false] at hq
      refine t_Picture_isPlus hP hc.2 ⟨fun h2 => ?_, fun h2 => ?_⟩
      · have hs : psg P (pcx P v) = false := by cases hx : psg P (pcx P v) <;> rw [hx] at h2 <;> simp [bi] at h2 ⊢
        rw [hs] at hq
        simp only [Bool.false_eq_true, if_false] at hq
        rw [w32_id (x := (e0 : Int) + 2) (by omega) (by omega), w32_id (by omega) (by omega)]
        rw [show ((e0 : Int) + 2 + 3) = ((e0 + 2 + 3 : Nat) : Int) by omega]
        exact nof_tail hP hv (by omega) hq
      · have hs : psg P (pcx P v) = true := by cases hx : psg P (pcx P v) <;> rw [hx] at h2 <;> simp [bi] at h2 ⊢
        rw [hs] at hq
        simp only [if_true] at hq
        rw [w32_id (x := (e0 : Int) + 2) (by omega) (by omega), w32_id (by omega) (by omega)]
        rw [show ((e0 : Int) + 2 + 1) = ((e0 + 2 + 1 : Nat) : Int) by omega]
        exact nof_tail hP hv (by omega) hq
    · have hon : on = true := by cases on <;> simp [bi] at h1 ⊢
      rw [hon] at hq
      simp only [if_true] at hq
      refine t_Picture_isPlus hP hc.2 ⟨fun h2 => ?_, fun h2 => ?_⟩
      · have hs : psg P (pcx P v) = false := by cases hx : psg P (pcx P v) <;> rw [hx] at h2 <;> simp [bi] at h2 ⊢
        rw [hs] at hq
        simp only [Bool.false_eq_true, if_false] at hq
        rw [w32_id (x := (e0 : Int) + 0) (by omega) (by omega), w32_id (by omega) (by omega)]
        rw [show ((e0 : Int) + 0 + 3) = ((e0 + 0 + 3 : Nat) : Int) by omega]
        exact nof_tail hP hv (by omega) hq
      · have hs : psg P (pcx P v) = true := by cases hx : psg P (pcx P v) <;> rw [hx] at h2 <;> simp [bi] at h2 ⊢
        rw [hs] at hq
        simp only [if_true] at hq
        rw [w32_id (x := (e0 : Int) + 0) (by omega) (by omega), w32_id (by omega) (by omega)]
        rw [show ((e0 : Int) + 0 + 1) = ((e0 + 0 + 1 : Nat) : Int) by omega]
        exact nof_tail hP hv (by omega) hq
  have mid : ∀ (on : Bool) (v : Nat), v < P.1.length → v = (if on then aft P.1.length (w / 2) else w / 2) → on = decide (w % 2 = 0) → kWP xs true (d + 1) 0 0 59 29 [(0, 13, 0, p), (2, 0, 0, bi on)] [(0, 0, (v : Int))] G I Q := by
    intro on v hv hve hon
    refine b_Picture_nextOfFace_29 (t_Picture_isOver hP (by omega) ?_)
    have hq : ∀ e0 : Nat, e0 = (if pov P v then 0 else 1) → Q ((if 2 ≤ (e0 + (if on then 0 else 2) + (if psg P (pcx P v) then 1 else 3)) % 4 then 2 * agn P v else 2 * bef P.1.length (agn P v) + 1 : Nat) : Int) G I := by
      intro e0 he0
      unfold nof at h
      simp only [← hon] at h
      rw [← hve] at h
      rw [← he0] at h
      exact h
    refine ⟨fun h1 => ?_, fun h1 => ?_⟩
    · have ho : pov P v = false := by cases hx : pov P v <;> rw [hx] at h1 <;> simp [bi] at h1 ⊢
      exact last on v 1 hv (by rw [ho]; rfl) (hq 1 (by rw [ho]; rfl))
    · have ho : pov P v = true := by cases hx : pov P v <;> rw [hx] at h1 <;> simp [bi] at h1 ⊢
      exact last on v 0 hv (by rw [ho]; rfl) (hq 0 (by rw [ho]; rfl))
  refine b_Picture_nextOfFace_0 ⟨by omega, ?_⟩
  rw [show (2 : Int) = ((2 : Nat) : Int) from rfl, kirem_n (by omega) (by omega) (by omega)]
  refine ⟨fun h1 => ?_, fun h1 => ?_⟩
  · refine b_Picture_nextOfFace_11 ⟨fun _ => ⟨by omega, ?_⟩, fun h2 => absurd rfl h2⟩
    rw [show (2 : Int) = ((2 : Nat) : Int) from rfl, kidiv_n (by omega) (by omega) (by omega)]
    exact mid false (w / 2) (by omega) rfl (by rw [decide_eq_false (by omega)])
  · refine b_Picture_nextOfFace_11 ⟨fun h2 => by omega, fun _ => ⟨by omega, ?_⟩⟩
    rw [show (2 : Int) = ((2 : Nat) : Int) from rfl, kidiv_n (by omega) (by omega) (by omega)]
    refine t_Picture_after' hP.2.2.2.1 hl (by omega) ?_
    exact mid true _ (aft_lt hm) rfl (by rw [decide_eq_true (by omega)])
