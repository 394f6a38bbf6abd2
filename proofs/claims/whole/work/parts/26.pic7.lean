/-! PICTURES: faces and moves -/
theorem nof_lt {P : Pic} {w : Nat} (hw : w < 2 * P.1.length) : nof P w < 2 * P.1.length := by
  have hm : 0 < P.1.length := by omega
  unfold nof
  simp only
  have hv : (if decide (w % 2 = 0) = true then aft P.1.length (w / 2) else w / 2) < P.1.length := by
    split
    · exact aft_lt hm
    · omega
  generalize (if decide (w % 2 = 0) = true then aft P.1.length (w / 2) else w / 2) = v at hv
  have ha := agn_lt hv
  have hb := bef_lt ha
  generalize ((if pov P v = true then 0 else 1) + (if decide (w % 2 = 0) = true then 0 else 2) + (if psg P (pcx P v) = true then 1 else 3)) % 4 = nx
  split <;> omega
def fcl (P : Pic) (first : Nat) : Nat → Nat → Nat → Nat
  | 0, _, g => g
  | n + 1, w, g => if nof P w = first then g ||| 2 ^ w else fcl P first n (nof P w) (g ||| 2 ^ w)
theorem fcl_lt {P : Pic} {first N : Nat} (hN : ∀ w, w < N → nof P w < N) : ∀ (n w g : Nat), w < N → g < 2 ^ N → fcl P first n w g < 2 ^ N
  | 0, w, g, _, hg => hg
  | n + 1, w, g, hw, hg => by
    have h1 : g ||| 2 ^ w < 2 ^ N := Nat.or_lt_two_pow hg (Nat.pow_lt_pow_right (by omega) hw)
    unfold fcl
    split
    · exact h1
    · exact fcl_lt hN n _ _ (hN w hw) h1
theorem p28 {N : Nat} (h : N ≤ 28) : 2 ^ N ≤ 268435456 := by
  have := Nat.pow_le_pow_right (n := 2) (by omega) h
  simpa using this
theorem t_Picture_face {xs : KS} {d : Nat} {p : Int} {P : Pic} {w : Nat} {G : KG} {I : KI} {Q : KQ} (hP : CPic p P I) (hw : w < 2 * P.1.length) (h : Q (fcl P w (2 * P.1.length) w 0 : Int) G I) : kWP xs true (d + 2) 0 0 58 0 [(0, 13, 0, p), (1, 0, 0, (w : Int))] [] G I Q := by
  have hl := hP.2.1
  have hm := hP.2.2.2.1
  refine b_Picture_face_0 ?_
  have key : ∀ j, j ≤ 2 * P.1.length → ∀ (u g : Nat), u < 2 * P.1.length → g < 2 ^ (2 * P.1.length) → Q (fcl P w (2 * P.1.length - j) u g : Int) G I → kWP xs true (d + 2) 0 0 58 7 [(0, 13, 0, p), (1, 0, 0, (w : Int)), (2, 0, 0, (g : Int)), (3, 0, 0, (u : Int)), (4, 0, 0, (j : Int))] [] G I Q := by
    intro j hj
    refine loop_up (n := 2 * P.1.length) (W := fun j => ∀ (u g : Nat), u < 2 * P.1.length → g < 2 ^ (2 * P.1.length) → Q (fcl P w (2 * P.1.length - j) u g : Int) G I → kWP xs true (d + 2) 0 0 58 7 [(0, 13, 0, p), (1, 0, 0, (w : Int)), (2, 0, 0, (g : Int)), (3, 0, 0, (u : Int)), (4, 0, 0, (j : Int))] [] G I Q) ?_ ?_ hj
    · intro u g hu hg hq
      refine b_Picture_face_7 ?_
      rw [hm, w32_id (x := 2 * _) (by omega) (by omega)]
      refine ⟨fun _ => ?_, fun h1 => by omega⟩
      rw [Nat.sub_self] at hq
      exact hq
    · intro j hj ih u g hu hg hq
      have hp := p28 (N := 2 * P.1.length) (by omega)
      refine b_Picture_face_7 ?_
      rw [hm, w32_id (x := 2 * _) (by omega) (by omega)]
      refine ⟨fun h1 => by omega, fun _ => t_Picture_nextOfFace hP hu ?_⟩
      have hgo : kior (g : Int) (kishl 1 (u : Int)) = ((g ||| 2 ^ u : Nat) : Int) := by
        have h31 : 2 ^ u < 2147483648 := by have := Nat.pow_lt_pow_right (a := 2) (by omega) (show u < 31 by omega); simpa using this
        rw [kishl_n (by omega), kior_n (by omega) h31]
      rw [hgo]
      rw [show 2 * P.1.length - j = (2 * P.1.length - (j + 1)) + 1 by omega] at hq
      unfold fcl at hq
      refine ⟨fun h1 => ?_, fun h1 => ?_⟩
      · rw [if_neg (by omega)] at hq
        rw [w32_id (by omega) (by omega)]
        exact ih _ _ (nof_lt hu) (Nat.or_lt_two_pow hg (Nat.pow_lt_pow_right (by omega) hu)) hq
      · rw [if_pos (by omega)] at hq
        exact hq
  exact key 0 (Nat.zero_le _) w 0 hw (Nat.pos_of_ne_zero (by simp)) h
def fcs (P : Pic) : Nat → Nat → Nat → Nat → Nat
  | 0, _, _, c => c
  | n + 1, w, g, c => if g.testBit w then fcs P n (w + 1) g c else fcs P n (w + 1) (g ||| fcl P w (2 * P.1.length) w 0) (c + 1)
/-- the class's count of faces -/
def fcC (P : Pic) : Nat := if P.1.length = 0 then 2 else fcs P (2 * P.1.length) 0 0 0
theorem t_Picture_faces {xs : KS} {d : Nat} {p : Int} {P : Pic} {G : KG} {I : KI} {Q : KQ} (hP : CPic p P I) (h : Q (fcC P : Int) G I) : kWP xs true (d + 3) 0 0 57 0 [(0, 13, 0, p)] [] G I Q := by
  have hl := hP.2.1
  have hm := hP.2.2.2.1
  refine b_Picture_faces_0 ?_
  rw [hm]
  unfold fcC at h
  refine ⟨fun h1 => ?_, fun h1 => ?_⟩
  · rw [if_neg (by omega)] at h
    have key : ∀ j, j ≤ 2 * P.1.length → ∀ (c g : Nat), c ≤ j → g < 2 ^ (2 * P.1.length) → Q (fcs P (2 * P.1.length - j) j g c : Int) G I → kWP xs true (d + 3) 0 0 57 15 [(0, 13, 0, p), (1, 0, 0, (g : Int)), (2, 0, 0, (c : Int)), (3, 0, 0, (j : Int))] [] G I Q := by
      intro j hj
      refine loop_up (n := 2 * P.1.length) (W := fun j => ∀ (c g : Nat), c ≤ j → g < 2 ^ (2 * P.1.length) → Q (fcs P (2 * P.1.length - j) j g c : Int) G I → kWP xs true (d + 3) 0 0 57 15 [(0, 13, 0, p), (1, 0, 0, (g : Int)), (2, 0, 0, (c : Int)), (3, 0, 0, (j : Int))] [] G I Q) ?_ ?_ hj
      · intro c g hc hg hq
        refine b_Picture_faces_15 ?_
        rw [hm, w32_id (x := 2 * _) (by omega) (by omega)]
        refine ⟨fun _ => ?_, fun h1 => by omega⟩
        rw [Nat.sub_self] at hq
        exact hq
      · intro j hj ih c g hc hg hq
        have hp := p28 (N := 2 * P.1.length) (by omega)
        refine b_Picture_faces_15 ?_
        rw [hm, w32_id (x := 2 * _) (by omega) (by omega), kbit_n (by omega) (by omega)]
        rw [show 2 * P.1.length - j = (2 * P.1.length - (j + 1)) + 1 by omega] at hq
        unfold fcs at hq
        have hf := fcl_lt (P := P) (first := j) (N := 2 * P.1.length) (fun w hw => nof_lt hw) (2 * P.1.length) j 0 hj (Nat.pos_of_ne_zero (by simp))
        refine ⟨fun h1 => by omega, fun _ => ⟨fun h1 => ?_, fun h1 => ?_⟩⟩
        · have hb : g.testBit j = false := by cases hx : g.testBit j <;> rw [hx] at h1 <;> simp at h1 ⊢
          rw [if_neg (by rw [hb]; simp)] at hq
          refine t_Picture_face hP hj ?_
          rw [kior_n (by omega) (by omega), w32_id (by omega) (by omega), w32_id (by omega) (by omega)]
          rw [show (c : Int) + 1 = ((c + 1 : Nat) : Int) by omega]
          exact ih (c + 1) _ (by omega) (Nat.or_lt_two_pow hg hf) hq
        · have hb : g.testBit j = true := by cases hx : g.testBit j <;> rw [hx] at h1 <;> simp at h1 ⊢
          rw [if_pos hb] at hq
          rw [w32_id (by omega) (by omega)]
          exact ih c g (by omega) hg hq
    exact key 0 (Nat.zero_le _) 0 0 (Nat.le_refl _) (Nat.pos_of_ne_zero (by simp)) h
  · rw [if_pos (by omega)] at h
    exact h
theorem t_Picture_canBeDrawn {xs : KS} {d : Nat} {p : Int} {P : Pic} {G : KG} {I : KI} {Q : KQ} (hP : CPic p P I) (h : Q (bi (decide (fcC P = P.2.length + 2))) G I) : kWP xs true (d + 4) 0 0 56 0 [(0, 13, 0, p)] [] G I Q := by
  refine b_Picture_canBeDrawn_0 (t_Picture_faces hP ?_)
  have h7 := hP.1
  rw [hP.2.2.1, w32_id (by omega) (by omega)]
  refine ⟨fun h1 => ?_, fun h1 => ?_⟩
  · rw [decide_eq_false (by omega)] at h; exact h
  · rw [decide_eq_true (by omega)] at h; exact h
def pln (P : Pic) (c : Nat) (b : Bool) : Nat := fnd (fun k => decide (pcx P k = c) && (pov P k == b)) P.1.length
/-- every crossing has a visit over and one under -/
def pwh (P : Pic) : Prop := ∀ c, c < P.2.length → ∀ b, pln P c b < P.1.length
theorem plc_pln {P : Pic} (h : pwh P) {c : Nat} (hc : c < P.2.length) (b : Bool) : plc P c b = (pln P c b : Int) := by
  have h1 : fnd (fun k => decide (pcx P k = c) && (pov P k == b)) P.1.length < P.1.length := h c hc b
  unfold plc fnI pln
  rw [if_pos h1]
def fol (m j k : Nat) : Bool := decide (aft m j = k) || decide (aft m k = j)
theorem t_Picture_follow {xs : KS} {d : Nat} {p : Int} {m j k : Nat} {G : KG} {I : KI} {Q : KQ} (hm : I p 5 = (m : Int)) (hl : m ≤ 14) (hj : j < m) (hk : k < m) (h : Q (bi (fol m j k)) G I) : kWP xs true (d + 1) 0 0 62 0 [(0, 13, 0, p), (1, 0, 0, (j : Int)), (2, 0, 0, (k : Int))] [] G I Q := by
  refine b_Picture_follow_0 (t_Picture_after' hm hl hj ⟨fun h1 => ?_, fun h1 => t_Picture_after' hm hl hk ⟨fun h2 => ?_, fun h2 => ?_⟩⟩)
  · have : fol m j k = true := by unfold fol; rw [decide_eq_true (by omega)]; rfl
    rw [this] at h; exact h
  · have : fol m j k = false := by unfold fol; rw [decide_eq_false (by omega), decide_eq_false (by omega)]; rfl
    rw [this] at h; exact h
  · have : fol m j k = true := by unfold fol; rw [decide_eq_true (p := aft m k = j) (by omega)]; simp
    rw [this] at h; exact h
def gb2 (P : Pic) (c e : Nat) : Bool := (psg P c != psg P e) && fol P.1.length (pln P c true) (pln P e true) && fol P.1.length (pln P c false) (pln P e false)
theorem t_Picture_goneByTwo {xs : KS} {d : Nat} {p : Int} {P : Pic} {c e : Nat} {G : KG} {I : KI} {Q : KQ} (hP : CPic p P I) (hW : pwh P) (hc : c < P.2.length) (he : e < P.2.length) (h : Q (bi (gb2 P c e)) G I) : kWP xs true (d + 2) 0 0 61 0 [(0, 13, 0, p), (1, 0, 0, (c : Int)), (2, 0, 0, (e : Int))] [] G I Q := by
  have h7 := hP.1
  have hl := hP.2.1
  have hm := hP.2.2.2.1
  refine b_Picture_goneByTwo_0 (t_Picture_isPlus hP (by omega) (t_Picture_isPlus hP (by omega) ⟨fun h1 => ?_, fun h1 => ?_⟩))
  · have : gb2 P c e = false := by unfold gb2; rw [bi_inj.mp h1]; simp
    rw [this] at h; exact h
  · have hs : (psg P c != psg P e) = true := by
      cases h5 : psg P c <;> cases h6 : psg P e <;> rw [h5, h6] at h1 <;> simp at h1 ⊢
    refine t_Picture_visitOf (b := true) hP (t_Picture_visitOf (b := true) hP ?_)
    rw [plc_pln hW hc, plc_pln hW he]
    refine t_Picture_follow hm hl (hW c hc true) (hW e he true) ⟨fun h2 => ?_, fun h2 => ?_⟩
    · have : gb2 P c e = false := by
        unfold gb2
        cases h5 : fol P.1.length (pln P c true) (pln P e true) with
        | true => rw [h5] at h2; simp [bi] at h2
        | false => simp
      rw [this] at h; exact h
    · have hf : fol P.1.length (pln P c true) (pln P e true) = true := by
        cases h5 : fol P.1.length (pln P c true) (pln P e true) with
        | true => rfl
        | false => rw [h5] at h2; simp [bi] at h2
      refine t_Picture_visitOf (b := false) hP (t_Picture_visitOf (b := false) hP ?_)
      rw [plc_pln hW hc, plc_pln hW he]
      refine t_Picture_follow hm hl (hW c hc false) (hW e he false) ⟨fun h3 => ?_, fun h3 => ?_⟩
      · have : gb2 P c e = false := by
          unfold gb2
          cases h5 : fol P.1.length (pln P c false) (pln P e false) with
          | true => rw [h5] at h3; simp [bi] at h3
          | false => simp
        rw [this] at h; exact h
      · have : gb2 P c e = true := by
          unfold gb2
          rw [hs, hf]
          cases h5 : fol P.1.length (pln P c false) (pln P e false) with
          | true => rfl
          | false => rw [h5] at h3; simp [bi] at h3
        rw [this] at h; exact h
