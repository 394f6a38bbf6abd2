/-! THE CONSTRUCTORS: the model's last words; the layout; the first states -/
def iM (I : KI) : Prop := ∀ a : Nat, a < 129 → ∀ j, I (a : Int) j = if (a = 125 ∧ 0 ≤ j ∧ j < 6) ∨ (a = 101 ∧ j = 19) then -1 else 0
theorem crM_l : crM.1.length = 129 := by decide +kernel
theorem ct_M {xs : KS} {d : Nat} {G : KG} {I : KI} {Q : KQ} (hB : Bld2 mx0 G I) (h : ∀ (G1 : KG) (I1 : KI), BlG crM G1 → iM I1 → Q 0 G1 I1) : kWP xs false d 27 17063 144 0 [(0, 19, 0, 101)] [] G I Q := by
  refine ct_M0 hB (fun G1 I1 b => ?_)
  change Bld2 crM G1 I1 at b
  have e2 : G1.2.2 101 43 = 125 := b.1.ref (r := 101) (f := 43) (v := 125) (by decide +kernel)
  have t2 : G1.2.1 125 = (4, 6) := (b.1.2.1 125 (by decide +kernel)).trans (by decide +kernel)
  refine n_M_new_222 ?_
  refine n_M_new_224_0 ?_
  rw [e2, t2, show w32 (0 + 1) = 1 from by decide]
  refine ⟨fun hh => absurd hh (by decide), fun _ => ⟨by decide, by decide, fun J0 e10 => ?_⟩⟩
  refine n_M_new_224_1 ?_
  rw [e2, t2, show w32 (1 + 1) = 2 from by decide]
  refine ⟨fun hh => absurd hh (by decide), fun _ => ⟨by decide, by decide, fun J1 e11 => ?_⟩⟩
  refine n_M_new_224_2 ?_
  rw [e2, t2, show w32 (2 + 1) = 3 from by decide]
  refine ⟨fun hh => absurd hh (by decide), fun _ => ⟨by decide, by decide, fun J2 e12 => ?_⟩⟩
  refine n_M_new_224_3 ?_
  rw [e2, t2, show w32 (3 + 1) = 4 from by decide]
  refine ⟨fun hh => absurd hh (by decide), fun _ => ⟨by decide, by decide, fun J3 e13 => ?_⟩⟩
  refine n_M_new_224_4 ?_
  rw [e2, t2, show w32 (4 + 1) = 5 from by decide]
  refine ⟨fun hh => absurd hh (by decide), fun _ => ⟨by decide, by decide, fun J4 e14 => ?_⟩⟩
  refine n_M_new_224_5 ?_
  rw [e2, t2, show w32 (5 + 1) = 6 from by decide]
  refine ⟨fun hh => absurd hh (by decide), fun _ => ⟨by decide, by decide, fun J5 e15 => ?_⟩⟩
  refine n_M_new_224_6 ⟨fun _ => n_M_new_243 (fun J6 e16 => n_M_new_248 (h _ _ b.1 (fun a ha j => ?_))), fun hh => absurd hh (by decide)⟩
  have z := b.2 a (by rw [crM_l]; exact ha) j
  rw [e16, e15, e14, e13, e12, e11, e10]
  unfold kst
  rw [z]
  repeat' split
  all_goals omega
/-- every own cell lies where the layout has it -/
def rcB (X : CR) : Bool := (List.range X.1.length).all (fun a => let c := X.1.getD a (0, 0); if Nat.ble 4 c.1 && Nat.ble c.1 7 then true else (List.range c.2).all (fun k =>
  (match kOff c.1 k with
  | none => true
  | some o => decide ((a, k, a + o.1) ∈ X.2) && Nat.ble 4 (kek c.1 k) && Nat.blt (a + o.1) X.1.length && Nat.beq (X.1.getD (a + o.1) (0, 0)).1 (kek c.1 k) && (Nat.ble 10 (kek c.1 k) || Nat.beq (X.1.getD (a + o.1) (0, 0)).2 o.2)) &&
  (!(kMut c.1 k) || (decide ((a, k, a + 1) ∈ X.2) && Nat.blt (a + 1) X.1.length && Nat.beq (X.1.getD (a + 1) (0, 0)).1 6 && Nat.beq (X.1.getD (a + 1) (0, 0)).2 120))))
theorem rcB_M : rcB crM = true := by decide +kernel
theorem kOff_n {t k : Nat} (h : 4 ≤ t) (h7 : t ≤ 7) : kOff t k = none := by
  rcases (by omega : t = 4 ∨ t = 5 ∨ t = 6 ∨ t = 7) with e | e | e | e <;> subst e <;> rfl
theorem kMut_n {t k : Nat} (h : t ≤ 7) : kMut t k = false := by
  unfold kMut
  have : Nat.beq t 11 = false := by
    cases hb : Nat.beq t 11 with
    | false => rfl
    | true => have := Nat.eq_of_beq_eq_true hb; omega
  rw [this]; rfl
theorem kval_ge {G : KG} {t n : Nat} {x : Int} (ht : 4 ≤ t) (h : 0 ≤ x ∧ x < G.1 ∧ (G.2.1 x).1 = t ∧ (t < 10 → (G.2.1 x).2 = n)) : kval G (t, n, x) := by
  obtain ⟨u, rfl⟩ : ∃ u, t = u + 4 := ⟨t - 4, by omega⟩
  exact h
theorem kRC_of {X : CR} {G : KG} (h : BlG X G) (hr : rcB X = true) : kRC G := by
  obtain ⟨h1, h2, h3⟩ := h
  intro a ha k hk
  rw [h1] at ha
  have ta := h2 a ha
  rw [ta] at hk ⊢
  have c1 := List.all_eq_true.mp hr a (List.mem_range.mpr ha)
  simp only at c1
  generalize X.1.getD a (0, 0) = c at *
  by_cases h47 : 4 ≤ c.1 ∧ c.1 ≤ 7
  · refine ⟨fun o ho => ?_, fun hm => ?_⟩
    · rw [kOff_n h47.1 h47.2] at ho; cases ho
    · rw [kMut_n h47.2] at hm; cases hm
  · rw [if_neg (fun hh => by
      rw [Bool.and_eq_true] at hh
      exact h47 ⟨Nat.le_of_ble_eq_true hh.1, Nat.le_of_ble_eq_true hh.2⟩)] at c1
    have c2 := List.all_eq_true.mp c1 k (List.mem_range.mpr hk)
    rw [Bool.and_eq_true] at c2
    obtain ⟨c3, c4⟩ := c2
    refine ⟨fun o ho => ?_, fun hm => ?_⟩
    · rw [ho] at c3
      simp only [Bool.and_eq_true, Bool.or_eq_true] at c3
      obtain ⟨⟨⟨⟨d1, d2⟩, d3⟩, d4⟩, d5⟩ := c3
      have d1 := of_decide_eq_true d1
      have d2 := Nat.le_of_ble_eq_true d2
      have d3 : a + o.1 < X.1.length := Nat.le_of_ble_eq_true d3
      have d4 := Nat.eq_of_beq_eq_true d4
      have r1 := (h3 _ d1).2
      have t1 := h2 (a + o.1) d3
      have ec : ((a + o.1 : Nat) : Int) = (a : Int) + (o.1 : Int) := by omega
      simp only at r1
      rw [ec] at r1 t1
      refine ⟨r1, kval_ge d2 ⟨by omega, by rw [h1]; omega, by rw [t1]; exact d4, fun hl => ?_⟩⟩
      rw [t1]
      rcases d5 with d5 | d5
      · have := Nat.le_of_ble_eq_true d5; omega
      · exact Nat.eq_of_beq_eq_true d5
    · rw [hm] at c4
      simp only [Bool.not_true, Bool.false_or, Bool.and_eq_true] at c4
      obtain ⟨⟨⟨d1, d3⟩, d4⟩, d5⟩ := c4
      have d1 := of_decide_eq_true d1
      have d3 : a + 1 < X.1.length := Nat.le_of_ble_eq_true d3
      have r1 := (h3 _ d1).2
      have t1 := h2 (a + 1) d3
      simp only at r1
      rw [r1]
      refine kval_ge (by omega) ⟨by omega, by rw [h1]; omega, by rw [t1]; exact Nat.eq_of_beq_eq_true d4, fun _ => by rw [t1]; exact Nat.eq_of_beq_eq_true d5⟩
/-- behind the constructors the layout stands -/
theorem kLay {xs : KS} {d kc ks j pc : Nat} {L : KL} {st : List KV} {G : KG} {I : KI} {Q : KQ} (hr : kRC G) (h : kWP xs true d kc ks j pc L st G I Q) : kWP xs false d kc ks j pc L st G I Q := by
  intro X p l e R s m args below meth c H locs cells slots ls G0 F hc hs hz he hM hS hl hL hv
  refine W.imp (MQ.imp fun o t hq => ?_) (h X p l e R s m args below meth c H locs cells slots ls G0 F hc hs hz he ⟨hM.1, hM.2.1, hM.2.2.1, fun _ => hr⟩ hS hl hL hv)
  obtain ⟨⟨v, G', I', h1, h2, h3, h4⟩, h5⟩ := hq
  exact ⟨⟨v, G', I', h1, h2, ⟨h3.1, h3.2.1, h3.2.2.1, fun hh => by cases hh⟩, h4⟩, h5⟩
theorem iM_0 {I : KI} (h : iM I) {a : Nat} {j : Int} (ha : a < 129) (h1 : ¬ (a = 125 ∧ 0 ≤ j ∧ j < 6)) (h2 : ¬ (a = 101 ∧ j = 19)) : I (a : Int) j = 0 := by
  rw [h a ha j, if_neg (by omega)]
theorem rep_C {xs : KS} {I : KI} (h : iM I) : CRep xs S00 I := by
  have z : ∀ (a : Nat) (j : Int), a ≤ 100 → I (a : Int) j = 0 := fun a j ha => iM_0 h (by omega) (by omega) (by omega)
  refine ⟨⟨z 0 3 (by omega), by decide, fun i hi => absurd hi (Nat.not_lt_zero i)⟩, ⟨z 0 1 (by omega), by decide, fun k hk => absurd hk (Nat.not_lt_zero k)⟩, ⟨z 21 1 (by omega), by decide, fun k hk => absurd hk (Nat.not_lt_zero k)⟩,
    ⟨z 35 1 (by omega), z 35 2 (by omega), by decide, by decide, fun k hk => absurd hk (Nat.not_lt_zero k)⟩, ⟨z 37 1 (by omega), by decide, fun k hk => absurd hk (Nat.not_lt_zero k), z 37 3 (by omega), fun k hk => absurd hk (Nat.not_lt_zero k)⟩, ⟨rfl, fun i hi => ?_⟩, fun s hs => Or.inl (z 34 s (by omega))⟩
  have e : (List.replicate 6 (none : Shf)).getD i none = none := by
    rw [List.getD_eq_getElem?_getD, List.getElem?_replicate]
    split <;> rfl
  show CShf _ ((List.replicate 6 (none : Shf)).getD i none) I
  rw [e]
  show I (40 + (49 + 2 * (i : Int))) 1 = 0
  rw [show 40 + (49 + 2 * (i : Int)) = ((89 + 2 * i : Nat) : Int) by omega]
  exact z _ _ (by omega)
theorem rep_M {I : KI} (h : iM I) : RRep S00 I := by
  have z : ∀ j : Int, j ≠ 19 → I 101 j = 0 := fun j hj => iM_0 h (a := 101) (by omega) (by omega) (by omega)
  refine ⟨⟨z 0 (by omega), by decide, fun i hi => absurd hi (Nat.not_lt_zero i)⟩, ⟨z 17 (by omega), by decide, fun k hk => absurd hk (Nat.not_lt_zero k)⟩, ⟨?_, by decide, fun k hk => absurd hk (Nat.not_lt_zero k)⟩,
    ⟨z 33 (by omega), z 32 (by omega), by decide, by decide, fun k hk => absurd hk (Nat.not_lt_zero k)⟩, ⟨z 37 (by omega), by decide, fun k hk => absurd hk (Nat.not_lt_zero k), z 40 (by omega), fun k hk => absurd hk (Nat.not_lt_zero k)⟩, ⟨rfl, fun i hi => ?_⟩⟩
  · have := h 101 (by omega) 19
    rw [if_pos (by omega)] at this
    exact this
  · have e : (List.replicate 6 (none : Shf)).getD i none = none := by
      rw [List.getD_eq_getElem?_getD, List.getElem?_replicate]
      split <;> rfl
    show MShf i ((List.replicate 6 (none : Shf)).getD i none) I
    rw [e]
    show I 125 (i : Int) = -1
    have := h 125 (by omega) (i : Int)
    rw [if_pos (by omega)] at this
    exact this
/-! BOTH SIDES of a call -/
theorem CRep.lo {xs : KS} {S : St} {I J : KI} (h : CRep xs S I) (hf : lof I J) : CRep xs S J := by
  obtain ⟨h1, h2, h3, h4, h5, h6, h7⟩ := h
  exact ⟨h1.fr (fun a k hk => hf _ _ (by omega)), h2.fr (fun a k hk => hf _ _ (by omega)), h3.fr (hf _ _ (by omega)) (fun k => hf _ _ (by omega)), h4.fr (fun a k hk => hf _ _ (by omega)), h5.fr (fun a k hk => hf _ _ (by omega)), h6.fr (fun a k _ _ => hf _ _ (by omega)), h7.fr (fun k => hf _ _ (by omega))⟩
theorem RRep.hi {S : St} {I J : KI} (h : RRep S I) (hf : hif I J) : RRep S J := by
  obtain ⟨h1, h2, h3, h4, h5, h6⟩ := h
  exact ⟨h1.fr (fun a k hk => hf _ _ (by omega)), h2.fr (fun a k hk => hf _ _ (by omega)), h3.fr (fun a k hk => hf _ _ (by omega)), h4.fr (fun a k hk => hf _ _ (by omega)), h5.fr (fun a k hk => hf _ _ (by omega)), h6.fr (fun a k _ _ => hf _ _ (by omega))⟩
/-- a call on either side: the same answer, the same state -/
theorem both2 {xs : KS} {jC jM d : Nat} {aC aM : KL} {op : Op} {S : St} {G : KG} {I : KI} {K : Int → Int → KG → KI → Prop} (hC : COk xs jC aC op) (hM : MOk xs jM aM op) (hk : Kp op) (h1 : CRep xs S I) (h2 : RRep S I) (h3 : Inv S)
    (h : ∀ (G' : KG) (I' : KI), CRep xs (op S).2 I' → RRep (op S).2 I' → Inv (op S).2 → K (op S).1 (op S).1 G' I') : kWP xs true (d + 80) 0 0 jC 0 aC [] G I (fun r1 G1 I1 => kWP xs true (d + 80) 0 0 jM 0 aM [] G1 I1 (fun r2 G2 I2 => K r1 r2 G2 I2)) :=
  hC d S G I _ h1 h3 (fun G1 I1 c1 f1 => hM d S G1 I1 _ (h2.hi f1) h3 (fun G2 I2 c2 f2 => h G2 I2 (c1.lo f2) c2 (hk S h3)))
