/-! THE CONSTRUCTORS: cells one by one -/
/-- cells by sort and length; what fields refer to -/
abbrev CR : Type := List (Nat × Nat) × List (Nat × Nat × Nat)
def BlG (X : CR) (G : KG) : Prop := G.1 = X.1.length ∧ (∀ k : Nat, k < X.1.length → G.2.1 (k : Int) = X.1.getD k (0, 0)) ∧ ∀ q ∈ X.2, q.1 < X.1.length ∧ G.2.2 (q.1 : Int) (q.2.1 : Int) = (q.2.2 : Int)
def Bld2 (X : CR) (G : KG) (I : KI) : Prop := BlG X G ∧ ∀ k : Nat, k < X.1.length → ∀ j, I (k : Int) j = 0
def cnw (X : CR) (t n : Nat) : CR := (X.1 ++ [(t, n)], X.2)
def cpt (X : CR) (r f v : Nat) : CR := (X.1, X.2 ++ [(r, f, v)])
def cnp (X : CR) (r f t n : Nat) : CR := cpt (cnw X t n) r f X.1.length
def okf (X : CR) (r f : Nat) : Bool := X.2.all (fun q => !(Nat.beq q.1 r && Nat.beq q.2.1 f))
theorem okf_i {X : CR} {r f : Nat} (h : okf X r f = true) {q : Nat × Nat × Nat} (hq : q ∈ X.2) : ¬ (q.1 = r ∧ q.2.1 = f) := fun e => by
  have := List.all_eq_true.mp h q hq
  rw [e.1, e.2] at this
  simp at this
theorem okf_n {X : CR} {G : KG} {r f : Nat} (h : BlG X G) (hr : X.1.length ≤ r) : okf X r f = true := by
  refine List.all_eq_true.mpr (fun q hq => ?_)
  have := (h.2.2 q hq).1
  have : Nat.beq q.1 r = false := by
    cases hb : Nat.beq q.1 r with
    | false => rfl
    | true => have := Nat.eq_of_beq_eq_true hb; omega
  rw [this]; rfl
theorem okf_s {X : CR} {r f g t n : Nat} (h : okf X r g = true) (hne : f ≠ g) : okf (cnp X r f t n) r g = true := by
  unfold okf cnp cpt cnw at *
  rw [List.all_append, h]
  have : Nat.beq f g = false := by
    cases hb : Nat.beq f g with
    | false => rfl
    | true => exact absurd (Nat.eq_of_beq_eq_true hb) hne
  simp [this]
theorem Bld2.nw {X : CR} {G : KG} {I : KI} (h : Bld2 X G I) (t n : Nat) : Bld2 (cnw X t n) (kGn G t n) (kIn0 G I) := by
  obtain ⟨⟨h1, h2, h3⟩, h4⟩ := h
  unfold cnw
  refine ⟨⟨?_, fun k hk => ?_, fun q hq => ?_⟩, fun k hk j => ?_⟩
  · show G.1 + 1 = _
    rw [List.length_append, List.length_singleton, h1]
  · rw [List.length_append, List.length_singleton] at hk
    show (if (k : Int) = (G.1 : Int) then (t, n) else G.2.1 (k : Int)) = _
    by_cases e : k = X.1.length
    · rw [if_pos (by omega), e, List.getD_eq_getElem?_getD, List.getElem?_append_right (Nat.le_refl _), Nat.sub_self]; rfl
    · rw [if_neg (by omega), h2 k (by omega), List.getD_eq_getElem?_getD, List.getD_eq_getElem?_getD, List.getElem?_append_left (by omega)]
  · obtain ⟨a, b⟩ := h3 q hq
    refine ⟨by rw [List.length_append, List.length_singleton]; omega, ?_⟩
    show (if (q.1 : Int) = (G.1 : Int) then -1 else G.2.2 (q.1 : Int) (q.2.1 : Int)) = _
    rw [if_neg (by omega)]; exact b
  · rw [List.length_append, List.length_singleton] at hk
    show (if (k : Int) = (G.1 : Int) then 0 else I (k : Int) j) = 0
    by_cases e : k = X.1.length
    · rw [if_pos (by omega)]
    · rw [if_neg (by omega)]; exact h4 k (by omega) j
theorem BlG.pt {X : CR} {G : KG} {r f v : Nat} {p f' v' : Int} (h : BlG X G) (hp : p = (r : Int)) (hf : f' = (f : Int)) (hv : v' = (v : Int)) (hr : r < X.1.length) (ho : okf X r f = true) : BlG (cpt X r f v) (kGr G p f' v') := by
  subst hp; subst hf; subst hv
  obtain ⟨h1, h2, h3⟩ := h
  unfold cpt
  refine ⟨h1, h2, fun q hq => ?_⟩
  show q.1 < X.1.length ∧ kst G.2.2 (r : Int) (f : Int) (v : Int) (q.1 : Int) (q.2.1 : Int) = (q.2.2 : Int)
  rcases List.mem_append.mp hq with hq | hq
  · have := okf_i ho hq
    obtain ⟨a, b⟩ := h3 q hq
    refine ⟨a, ?_⟩
    rw [kst_n (by omega)]
    exact b
  · rw [List.mem_singleton.mp hq]
    exact ⟨hr, kst_s⟩
theorem Bld2.pt {X : CR} {G : KG} {I : KI} {r f v : Nat} {p f' v' : Int} (h : Bld2 X G I) (hp : p = (r : Int)) (hf : f' = (f : Int)) (hv : v' = (v : Int)) (hr : r < X.1.length) (ho : okf X r f = true) : Bld2 (cpt X r f v) (kGr G p f' v') I := ⟨h.1.pt hp hf hv hr ho, h.2⟩
theorem cnw_l (X : CR) (t n : Nat) : (cnw X t n).1.length = X.1.length + 1 := by unfold cnw; simp
theorem cpt_l (X : CR) (r f v : Nat) : (cpt X r f v).1.length = X.1.length := rfl
theorem cnp_l (X : CR) (r f t n : Nat) : (cnp X r f t n).1.length = X.1.length + 1 := by unfold cnp; rw [cpt_l, cnw_l]
theorem Bld2.np {X : CR} {G : KG} {I : KI} {r f t n : Nat} {p f' : Int} (h : Bld2 X G I) (hp : p = (r : Int)) (hf : f' = (f : Int)) (hr : r < X.1.length) (ho : okf X r f = true) : Bld2 (cnp X r f t n) (kGr (kGn G t n) p f' (G.1 : Int)) (kIn0 G I) :=
  (h.nw t n).pt hp hf (by rw [h.1.1]) (by rw [cnw_l]; omega) ho
theorem BlG.ref {X : CR} {G : KG} (h : BlG X G) {r f v : Nat} (hm : (r, f, v) ∈ X.2) : G.2.2 (r : Int) (f : Int) = (v : Int) := (h.2.2 _ hm).2
def chgC (X : CR) (r : Nat) : CR := cnp X r 0 4 40
theorem ct_Changes {xs : KS} {d : Nat} {X : CR} {r : Nat} {p : Int} {G : KG} {I : KI} {Q : KQ} (hp : p = (r : Int)) (hB : Bld2 X G I) (hr : r < X.1.length) (hn : ∀ f, okf X r f = true) (h : ∀ (G1 : KG) (I1 : KI), Bld2 (chgC X r) G1 I1 → Q 0 G1 I1) : kWP xs false d 1 40 0 0 [(0, 10, 0, p)] [] G I Q := by
  refine n_Changes_new_0 (n_Changes_new_4 (n_Changes_new_12 (h _ _ ?_)))
  exact (hB.np (t := 4) (n := 40) (f := 0) hp rfl hr (hn 0))
def lawC (X : CR) (r : Nat) : CR := cpt (cnp X r 0 6 120) r 2 X.1.length
theorem ct_Law {xs : KS} {d : Nat} {X : CR} {r : Nat} {p : Int} {G : KG} {I : KI} {Q : KQ} (hp : p = (r : Int)) (hB : Bld2 X G I) (hr : r < X.1.length) (hn : ∀ f, okf X r f = true) (h : ∀ (G1 : KG) (I1 : KI), Bld2 (lawC X r) G1 I1 → Q 0 G1 I1) : kWP xs false d 1 120 5 0 [(0, 11, 0, p)] [] G I Q := by
  have b1 := (hB.np (t := 6) (n := 120) (f := 0) hp rfl hr (hn 0))
  have e1 := b1.1.ref (r := r) (f := 0) (v := X.1.length) (by unfold cnp cpt; simp)
  refine n_Law_new_0 (n_Law_new_4 (n_Law_new_12 ⟨?_, n_Law_new_20 (h _ _ ?_)⟩))
  · rw [hp] at *; rw [show ((0 : Nat) : Int) = 0 from rfl] at e1; rw [e1]; omega
  · rw [hp] at *; rw [show ((0 : Nat) : Int) = 0 from rfl] at e1; rw [e1]
    exact b1.pt rfl rfl rfl (by rw [cnp_l]; omega) (okf_s (hn 2) (by decide))
def lieC (X : CR) (r : Nat) : CR := cnp (cnp X r 0 4 50) r 2 4 24
theorem ct_Lies {xs : KS} {d : Nat} {X : CR} {r : Nat} {p : Int} {G : KG} {I : KI} {Q : KQ} (hp : p = (r : Int)) (hB : Bld2 X G I) (hr : r < X.1.length) (hn : ∀ f, okf X r f = true) (h : ∀ (G1 : KG) (I1 : KI), Bld2 (lieC X r) G1 I1 → Q 0 G1 I1) : kWP xs false d 2 74 23 0 [(0, 12, 0, p)] [] G I Q := by
  refine n_Lies_new_0 (n_Lies_new_4 (n_Lies_new_12 (n_Lies_new_20 (h _ _ ?_))))
  exact ((hB.np (t := 4) (n := 50) (f := 0) hp rfl hr (hn 0)).np (t := 4) (n := 24) (f := 2) hp rfl (by simp only [cnp_l]; omega) (okf_s (hn 2) (by decide)))
def picC (X : CR) (r : Nat) : CR := cnp (cnp (cnp X r 0 4 14) r 1 4 14) r 2 4 43
theorem ct_Picture {xs : KS} {d : Nat} {X : CR} {r : Nat} {p : Int} {G : KG} {I : KI} {Q : KQ} (hp : p = (r : Int)) (hB : Bld2 X G I) (hr : r < X.1.length) (hn : ∀ f, okf X r f = true) (h : ∀ (G1 : KG) (I1 : KI), Bld2 (picC X r) G1 I1 → Q 0 G1 I1) : kWP xs false d 3 71 31 0 [(0, 13, 0, p)] [] G I Q := by
  refine n_Picture_new_0 (n_Picture_new_4 (n_Picture_new_12 (n_Picture_new_20 (n_Picture_new_28 (h _ _ ?_)))))
  exact (((hB.np (t := 4) (n := 14) (f := 0) hp rfl hr (hn 0)).np (t := 4) (n := 14) (f := 1) hp rfl (by simp only [cnp_l]; omega) (okf_s (hn 1) (by decide))).np (t := 4) (n := 43) (f := 2) hp rfl (by simp only [cnp_l]; omega) (okf_s (okf_s (hn 2) (by decide)) (by decide)))
def shfC (X : CR) (r : Nat) : CR := cnp X r 0 5 60
theorem ct_Shelf {xs : KS} {d : Nat} {X : CR} {r : Nat} {p : Int} {G : KG} {I : KI} {Q : KQ} (hp : p = (r : Int)) (hB : Bld2 X G I) (hr : r < X.1.length) (hn : ∀ f, okf X r f = true) (h : ∀ (G1 : KG) (I1 : KI), Bld2 (shfC X r) G1 I1 → Q 0 G1 I1) : kWP xs false d 1 60 69 0 [(0, 15, 0, p)] [] G I Q := by
  refine n_Shelf_new_0 (n_Shelf_new_4 (n_Shelf_new_12 (h _ _ ?_)))
  exact (hB.np (t := 5) (n := 60) (f := 0) hp rfl hr (hn 0))
def sumC (X : CR) (r : Nat) : CR := cnp (cnp (cnp (cnp (cnp X r 0 4 128) r 1 4 14) r 2 4 14) r 3 4 64) r 6 4 43
theorem ct_Sums {xs : KS} {d : Nat} {X : CR} {r : Nat} {p : Int} {G : KG} {I : KI} {Q : KQ} (hp : p = (r : Int)) (hB : Bld2 X G I) (hr : r < X.1.length) (hn : ∀ f, okf X r f = true) (h : ∀ (G1 : KG) (I1 : KI), Bld2 (sumC X r) G1 I1 → Q 0 G1 I1) : kWP xs false d 5 263 75 0 [(0, 16, 0, p)] [] G I Q := by
  refine n_Sums_new_0 (n_Sums_new_4 (n_Sums_new_13 (n_Sums_new_21 (n_Sums_new_29 (n_Sums_new_37 (n_Sums_new_45 (h _ _ ?_)))))))
  exact (((((hB.np (t := 4) (n := 128) (f := 0) hp rfl hr (hn 0)).np (t := 4) (n := 14) (f := 1) hp rfl (by simp only [cnp_l]; omega) (okf_s (hn 1) (by decide))).np (t := 4) (n := 14) (f := 2) hp rfl (by simp only [cnp_l]; omega) (okf_s (okf_s (hn 2) (by decide)) (by decide))).np (t := 4) (n := 64) (f := 3) hp rfl (by simp only [cnp_l]; omega) (okf_s (okf_s (okf_s (hn 3) (by decide)) (by decide)) (by decide))).np (t := 4) (n := 43) (f := 6) hp rfl (by simp only [cnp_l]; omega) (okf_s (okf_s (okf_s (okf_s (hn 6) (by decide)) (by decide)) (by decide)) (by decide)))
def unlC (X : CR) (r : Nat) : CR := cnp X r 0 4 5504
theorem ct_Unlike {xs : KS} {d : Nat} {X : CR} {r : Nat} {p : Int} {G : KG} {I : KI} {Q : KQ} (hp : p = (r : Int)) (hB : Bld2 X G I) (hr : r < X.1.length) (hn : ∀ f, okf X r f = true) (h : ∀ (G1 : KG) (I1 : KI), Bld2 (unlC X r) G1 I1 → Q 0 G1 I1) : kWP xs false d 1 5504 81 0 [(0, 17, 0, p)] [] G I Q := by
  refine n_Unlike_new_0 (n_Unlike_new_4 (n_Unlike_new_13 (h _ _ ?_)))
  exact (hB.np (t := 4) (n := 5504) (f := 0) hp rfl hr (hn 0))
