/-! THE CONSTRUCTORS: the shaker, the class, the model -/
theorem okf_w {X : CR} {G : KG} {r f t n : Nat} (h : BlG X G) (hr : X.1.length ≤ r) : okf (cnw X t n) r f = true := okf_n (X := X) h hr
def cx0 : CR := ([(18, 13)], [])
theorem cx0_l : cx0.1.length = 1 := rfl
def cx4 : CR := cnp cx0 0 0 6 120
theorem cx4_l : cx4.1.length = 2 := by decide +kernel
theorem s_C_4 {xs : KS} {d : Nat} {G : KG} {I : KI} {Q : KQ} (hB : Bld2 cx0 G I) (h : ∀ (G1 : KG) (I1 : KI), Bld2 cx4 G1 I1 → kWP xs false d 99 8423 85 12 [(0, 18, 0, 0)] [] G1 I1 Q) : kWP xs false d 100 8543 85 4 [(0, 18, 0, 0)] [] G I Q := n_C_new_4 (h _ _ (hB.np (r := 0) (f := 0) (t := 6) (n := 120) rfl rfl (by decide +kernel) (by decide +kernel)))
def cx12 : CR := cnp cx4 0 2 8 12
theorem cx12_l : cx12.1.length = 3 := by decide +kernel
theorem s_C_12 {xs : KS} {d : Nat} {G : KG} {I : KI} {Q : KQ} (hB : Bld2 cx4 G I) (h : ∀ (G1 : KG) (I1 : KI), Bld2 cx12 G1 I1 → kWP xs false d 98 8411 85 21 [(0, 18, 0, 0)] [] G1 I1 Q) : kWP xs false d 99 8423 85 12 [(0, 18, 0, 0)] [] G I Q := n_C_new_12 (h _ _ (hB.np (r := 0) (f := 2) (t := 8) (n := 12) rfl rfl (by decide +kernel) (by decide +kernel)))
def cx21 : CR := cpt (picC (cnw cx12 13 8) 3) 0 4 3
theorem cx21_l : cx21.1.length = 7 := by decide +kernel
theorem s_C_21 {xs : KS} {d : Nat} {G : KG} {I : KI} {Q : KQ} (hB : Bld2 cx12 G I) (h : ∀ (G1 : KG) (I1 : KI), Bld2 cx21 G1 I1 → kWP xs false (d + 1) 94 8332 85 32 [(0, 18, 0, 0)] [] G1 I1 Q) : kWP xs false (d + 1) 98 8411 85 21 [(0, 18, 0, 0)] [] G I Q := n_C_new_21 (ct_Picture (r := 3) (by have e := hB.1.1; rw [cx12_l] at e; omega) (hB.nw 13 8) (by decide +kernel) (fun f => okf_w hB.1 (by decide +kernel)) (fun G1 I1 c1 => h _ _ (c1.pt (r := 0) (f := 4) (v := 3) rfl rfl (by have e := hB.1.1; rw [cx12_l] at e; omega) (by decide +kernel) (by decide +kernel))))
def cx32 : CR := cpt (picC (cnw cx21 13 8) 7) 0 5 7
theorem cx32_l : cx32.1.length = 11 := by decide +kernel
theorem s_C_32 {xs : KS} {d : Nat} {G : KG} {I : KI} {Q : KQ} (hB : Bld2 cx21 G I) (h : ∀ (G1 : KG) (I1 : KI), Bld2 cx32 G1 I1 → kWP xs false (d + 1) 90 8253 85 43 [(0, 18, 0, 0)] [] G1 I1 Q) : kWP xs false (d + 1) 94 8332 85 32 [(0, 18, 0, 0)] [] G I Q := n_C_new_32 (ct_Picture (r := 7) (by have e := hB.1.1; rw [cx21_l] at e; omega) (hB.nw 13 8) (by decide +kernel) (fun f => okf_w hB.1 (by decide +kernel)) (fun G1 I1 c1 => h _ _ (c1.pt (r := 0) (f := 5) (v := 7) rfl rfl (by have e := hB.1.1; rw [cx21_l] at e; omega) (by decide +kernel) (by decide +kernel))))
def cx43 : CR := cpt (sumC (cnw cx32 16 7) 11) 0 6 11
theorem cx43_l : cx43.1.length = 17 := by decide +kernel
theorem s_C_43 {xs : KS} {d : Nat} {G : KG} {I : KI} {Q : KQ} (hB : Bld2 cx32 G I) (h : ∀ (G1 : KG) (I1 : KI), Bld2 cx43 G1 I1 → kWP xs false (d + 1) 84 7983 85 54 [(0, 18, 0, 0)] [] G1 I1 Q) : kWP xs false (d + 1) 90 8253 85 43 [(0, 18, 0, 0)] [] G I Q := n_C_new_43 (ct_Sums (r := 11) (by have e := hB.1.1; rw [cx32_l] at e; omega) (hB.nw 16 7) (by decide +kernel) (fun f => okf_w hB.1 (by decide +kernel)) (fun G1 I1 c1 => h _ _ (c1.pt (r := 0) (f := 6) (v := 11) rfl rfl (by have e := hB.1.1; rw [cx32_l] at e; omega) (by decide +kernel) (by decide +kernel))))
def cx54 : CR := cnp cx43 0 7 4 7
theorem cx54_l : cx54.1.length = 18 := by decide +kernel
theorem s_C_54 {xs : KS} {d : Nat} {G : KG} {I : KI} {Q : KQ} (hB : Bld2 cx43 G I) (h : ∀ (G1 : KG) (I1 : KI), Bld2 cx54 G1 I1 → kWP xs false d 83 7976 85 62 [(0, 18, 0, 0)] [] G1 I1 Q) : kWP xs false d 84 7983 85 54 [(0, 18, 0, 0)] [] G I Q := n_C_new_54 (h _ _ (hB.np (r := 0) (f := 7) (t := 4) (n := 7) rfl rfl (by decide +kernel) (by decide +kernel)))
def cx62 : CR := cpt (unlC (cnw cx54 17 2) 18) 0 8 18
theorem cx62_l : cx62.1.length = 20 := by decide +kernel
theorem s_C_62 {xs : KS} {d : Nat} {G : KG} {I : KI} {Q : KQ} (hB : Bld2 cx54 G I) (h : ∀ (G1 : KG) (I1 : KI), Bld2 cx62 G1 I1 → kWP xs false (d + 1) 81 2470 85 73 [(0, 18, 0, 0)] [] G1 I1 Q) : kWP xs false (d + 1) 83 7976 85 62 [(0, 18, 0, 0)] [] G I Q := n_C_new_62 (ct_Unlike (r := 18) (by have e := hB.1.1; rw [cx54_l] at e; omega) (hB.nw 17 2) (by decide +kernel) (fun f => okf_w hB.1 (by decide +kernel)) (fun G1 I1 c1 => h _ _ (c1.pt (r := 0) (f := 8) (v := 18) rfl rfl (by have e := hB.1.1; rw [cx54_l] at e; omega) (by decide +kernel) (by decide +kernel))))
def sx0 : CR := cnw cx62 14 8
theorem sx0_l : sx0.1.length = 21 := by decide +kernel
def sx4 : CR := cpt (lawC (cnw sx0 11 11) 21) 20 0 21
theorem sx4_l : sx4.1.length = 23 := by decide +kernel
theorem s_Shaker_4 {xs : KS} {d : Nat} {G : KG} {I : KI} {Q : KQ} (hB : Bld2 sx0 G I) (h : ∀ (G1 : KG) (I1 : KI), Bld2 sx4 G1 I1 → kWP xs false (d + 1) 12 864 64 15 [(0, 14, 0, 20)] [] G1 I1 Q) : kWP xs false (d + 1) 14 995 64 4 [(0, 14, 0, 20)] [] G I Q := n_Shaker_new_4 (p := 20) (ct_Law (r := 21) (by have e := hB.1.1; rw [sx0_l] at e; omega) (hB.nw 11 11) (by decide +kernel) (fun f => okf_w hB.1 (by decide +kernel)) (fun G1 I1 c1 => h _ _ (c1.pt (r := 20) (f := 0) (v := 21) rfl rfl (by have e := hB.1.1; rw [sx0_l] at e; omega) (by decide +kernel) (by decide +kernel))))
def sx15 : CR := cpt (picC (cnw sx4 13 8) 23) 20 1 23
theorem sx15_l : sx15.1.length = 27 := by decide +kernel
theorem s_Shaker_15 {xs : KS} {d : Nat} {G : KG} {I : KI} {Q : KQ} (hB : Bld2 sx4 G I) (h : ∀ (G1 : KG) (I1 : KI), Bld2 sx15 G1 I1 → kWP xs false (d + 1) 8 785 64 26 [(0, 14, 0, 20)] [] G1 I1 Q) : kWP xs false (d + 1) 12 864 64 15 [(0, 14, 0, 20)] [] G I Q := n_Shaker_new_15 (p := 20) (ct_Picture (r := 23) (by have e := hB.1.1; rw [sx4_l] at e; omega) (hB.nw 13 8) (by decide +kernel) (fun f => okf_w hB.1 (by decide +kernel)) (fun G1 I1 c1 => h _ _ (c1.pt (r := 20) (f := 1) (v := 23) rfl rfl (by have e := hB.1.1; rw [sx4_l] at e; omega) (by decide +kernel) (by decide +kernel))))
def sx26 : CR := cpt (sumC (cnw sx15 16 7) 27) 20 2 27
theorem sx26_l : sx26.1.length = 33 := by decide +kernel
theorem s_Shaker_26 {xs : KS} {d : Nat} {G : KG} {I : KI} {Q : KQ} (hB : Bld2 sx15 G I) (h : ∀ (G1 : KG) (I1 : KI), Bld2 sx26 G1 I1 → kWP xs false (d + 1) 2 515 64 37 [(0, 14, 0, 20)] [] G1 I1 Q) : kWP xs false (d + 1) 8 785 64 26 [(0, 14, 0, 20)] [] G I Q := n_Shaker_new_26 (p := 20) (ct_Sums (r := 27) (by have e := hB.1.1; rw [sx15_l] at e; omega) (hB.nw 16 7) (by decide +kernel) (fun f => okf_w hB.1 (by decide +kernel)) (fun G1 I1 c1 => h _ _ (c1.pt (r := 20) (f := 2) (v := 27) rfl rfl (by have e := hB.1.1; rw [sx15_l] at e; omega) (by decide +kernel) (by decide +kernel))))
def sx37 : CR := cnp sx26 20 3 4 6
theorem sx37_l : sx37.1.length = 34 := by decide +kernel
theorem s_Shaker_37 {xs : KS} {d : Nat} {G : KG} {I : KI} {Q : KQ} (hB : Bld2 sx26 G I) (h : ∀ (G1 : KG) (I1 : KI), Bld2 sx37 G1 I1 → kWP xs false d 1 509 64 45 [(0, 14, 0, 20)] [] G1 I1 Q) : kWP xs false d 2 515 64 37 [(0, 14, 0, 20)] [] G I Q := n_Shaker_new_37 (p := 20) (h _ _ (hB.np (r := 20) (f := 3) (t := 4) (n := 6) rfl rfl (by decide +kernel) (by decide +kernel)))
def sx45 : CR := cnp sx37 20 4 4 509
theorem sx45_l : sx45.1.length = 35 := by decide +kernel
theorem s_Shaker_45 {xs : KS} {d : Nat} {G : KG} {I : KI} {Q : KQ} (hB : Bld2 sx37 G I) (h : ∀ (G1 : KG) (I1 : KI), Bld2 sx45 G1 I1 → kWP xs false d 0 0 64 54 [] [] G1 I1 Q) : kWP xs false d 1 509 64 45 [(0, 14, 0, 20)] [] G I Q := n_Shaker_new_45 (p := 20) (h _ _ (hB.np (r := 20) (f := 4) (t := 4) (n := 509) rfl rfl (by decide +kernel) (by decide +kernel)))
theorem ct_Shaker {xs : KS} {d : Nat} {G : KG} {I : KI} {Q : KQ} (hB : Bld2 sx0 G I) (h : ∀ (G1 : KG) (I1 : KI), Bld2 sx45 G1 I1 → Q 0 G1 I1) : kWP xs false (d + 1) 14 995 64 0 [(0, 14, 0, 20)] [] G I Q := by
  refine n_Shaker_new_0 (p := 20) ?_
  refine s_Shaker_4 hB (fun G1 I1 b1 => ?_)
  refine s_Shaker_15 b1 (fun G2 I2 b2 => ?_)
  refine s_Shaker_26 b2 (fun G3 I3 b3 => ?_)
  refine s_Shaker_37 b3 (fun G4 I4 b4 => ?_)
  refine s_Shaker_45 b4 (fun G5 I5 b5 => ?_)
  refine n_Shaker_new_54 ?_
  exact h _ _ b5
def cx73 : CR := cpt sx45 0 9 20
theorem cx73_l : cx73.1.length = 35 := by decide +kernel
theorem s_C_73 {xs : KS} {d : Nat} {G : KG} {I : KI} {Q : KQ} (hB : Bld2 cx62 G I) (h : ∀ (G1 : KG) (I1 : KI), Bld2 cx73 G1 I1 → kWP xs false (d + 2) 66 1467 85 84 [(0, 18, 0, 0)] [] G1 I1 Q) : kWP xs false (d + 2) 81 2470 85 73 [(0, 18, 0, 0)] [] G I Q := by
  have g1 : (G.1 : Int) = 20 := by have e := hB.1.1; rw [cx62_l] at e; omega
  refine n_C_new_73 ?_
  rw [g1]
  exact ct_Shaker (hB.nw 14 8) (fun G1 I1 c1 => h _ _ (c1.pt (r := 0) (f := 9) (v := 20) rfl rfl rfl (by decide +kernel) (by decide +kernel)))
def cx84 : CR := cpt (chgC (cnw cx73 10 3) 35) 0 10 35
theorem cx84_l : cx84.1.length = 37 := by decide +kernel
theorem s_C_84 {xs : KS} {d : Nat} {G : KG} {I : KI} {Q : KQ} (hB : Bld2 cx73 G I) (h : ∀ (G1 : KG) (I1 : KI), Bld2 cx84 G1 I1 → kWP xs false (d + 1) 64 1424 85 95 [(0, 18, 0, 0)] [] G1 I1 Q) : kWP xs false (d + 1) 66 1467 85 84 [(0, 18, 0, 0)] [] G I Q := n_C_new_84 (ct_Changes (r := 35) (by have e := hB.1.1; rw [cx73_l] at e; omega) (hB.nw 10 3) (by decide +kernel) (fun f => okf_w hB.1 (by decide +kernel)) (fun G1 I1 c1 => h _ _ (c1.pt (r := 0) (f := 10) (v := 35) rfl rfl (by have e := hB.1.1; rw [cx73_l] at e; omega) (by decide +kernel) (by decide +kernel))))
def cx95 : CR := cpt (lieC (cnw cx84 12 6) 37) 0 11 37
theorem cx95_l : cx95.1.length = 40 := by decide +kernel
theorem s_C_95 {xs : KS} {d : Nat} {G : KG} {I : KI} {Q : KQ} (hB : Bld2 cx84 G I) (h : ∀ (G1 : KG) (I1 : KI), Bld2 cx95 G1 I1 → kWP xs false (d + 1) 61 1344 85 106 [(0, 18, 0, 0)] [] G1 I1 Q) : kWP xs false (d + 1) 64 1424 85 95 [(0, 18, 0, 0)] [] G I Q := n_C_new_95 (ct_Lies (r := 37) (by have e := hB.1.1; rw [cx84_l] at e; omega) (hB.nw 12 6) (by decide +kernel) (fun f => okf_w hB.1 (by decide +kernel)) (fun G1 I1 c1 => h _ _ (c1.pt (r := 0) (f := 11) (v := 37) rfl rfl (by have e := hB.1.1; rw [cx84_l] at e; omega) (by decide +kernel) (by decide +kernel))))
def cx106 : CR := cnp cx95 0 12 9 6
theorem cx106_l : cx106.1.length = 41 := by decide +kernel
theorem s_C_106 {xs : KS} {d : Nat} {G : KG} {I : KI} {Q : KQ} (hB : Bld2 cx95 G I) (h : ∀ (G1 : KG) (I1 : KI), Bld2 cx106 G1 I1 → kWP xs false d 60 1338 85 115 [(0, 18, 0, 0)] [] G1 I1 Q) : kWP xs false d 61 1344 85 106 [(0, 18, 0, 0)] [] G I Q := n_C_new_106 (h _ _ (hB.np (r := 0) (f := 12) (t := 9) (n := 6) rfl rfl (by decide +kernel) (by decide +kernel)))
def cx117_0 : CR := cpt (picC (cnw cx106 13 8) 41) 2 0 41
theorem cx117_0_l : cx117_0.1.length = 45 := by decide +kernel
theorem s_C_117_0 {xs : KS} {d : Nat} {G : KG} {I : KI} {Q : KQ} (hB : Bld2 cx106 G I) (h : ∀ (G1 : KG) (I1 : KI), Bld2 cx117_0 G1 I1 → kWP xs false (d + 1) 56 1259 85 117 [(0, 18, 0, 0), (1, 0, 0, 1)] [] G1 I1 Q) : kWP xs false (d + 1) 60 1338 85 117 [(0, 18, 0, 0), (1, 0, 0, 0)] [] G I Q := by
  have e2 : G.2.2 0 2 = 2 := hB.1.ref (r := 0) (f := 2) (v := 2) (by decide +kernel)
  have t2 : G.2.1 2 = (8, 12) := (hB.1.2.1 2 (by decide +kernel)).trans (by decide +kernel)
  refine n_C_new_117_0 ?_
  rw [e2, t2, show w32 (0 + 1) = 1 from by decide]
  refine ⟨by decide, fun hh => absurd hh (by decide), fun _ => ⟨by decide, ct_Picture (r := 41) (by have e := hB.1.1; rw [cx106_l] at e; omega) (hB.nw 13 8) (by decide +kernel) (fun f => okf_w hB.1 (by decide +kernel)) (fun G1 I1 c1 => ⟨by decide, h _ _ ?_⟩)⟩⟩
  exact c1.pt (r := 2) (f := 0) (v := 41) rfl rfl (by have e := hB.1.1; rw [cx106_l] at e; omega) (by decide +kernel) (by decide +kernel)
def cx117_1 : CR := cpt (picC (cnw cx117_0 13 8) 45) 2 1 45
theorem cx117_1_l : cx117_1.1.length = 49 := by decide +kernel
theorem s_C_117_1 {xs : KS} {d : Nat} {G : KG} {I : KI} {Q : KQ} (hB : Bld2 cx117_0 G I) (h : ∀ (G1 : KG) (I1 : KI), Bld2 cx117_1 G1 I1 → kWP xs false (d + 1) 52 1180 85 117 [(0, 18, 0, 0), (1, 0, 0, 2)] [] G1 I1 Q) : kWP xs false (d + 1) 56 1259 85 117 [(0, 18, 0, 0), (1, 0, 0, 1)] [] G I Q := by
  have e2 : G.2.2 0 2 = 2 := hB.1.ref (r := 0) (f := 2) (v := 2) (by decide +kernel)
  have t2 : G.2.1 2 = (8, 12) := (hB.1.2.1 2 (by decide +kernel)).trans (by decide +kernel)
  refine n_C_new_117_1 ?_
  rw [e2, t2, show w32 (1 + 1) = 2 from by decide]
  refine ⟨by decide, fun hh => absurd hh (by decide), fun _ => ⟨by decide, ct_Picture (r := 45) (by have e := hB.1.1; rw [cx117_0_l] at e; omega) (hB.nw 13 8) (by decide +kernel) (fun f => okf_w hB.1 (by decide +kernel)) (fun G1 I1 c1 => ⟨by decide, h _ _ ?_⟩)⟩⟩
  exact c1.pt (r := 2) (f := 1) (v := 45) rfl rfl (by have e := hB.1.1; rw [cx117_0_l] at e; omega) (by decide +kernel) (by decide +kernel)
def cx117_2 : CR := cpt (picC (cnw cx117_1 13 8) 49) 2 2 49
theorem cx117_2_l : cx117_2.1.length = 53 := by decide +kernel
theorem s_C_117_2 {xs : KS} {d : Nat} {G : KG} {I : KI} {Q : KQ} (hB : Bld2 cx117_1 G I) (h : ∀ (G1 : KG) (I1 : KI), Bld2 cx117_2 G1 I1 → kWP xs false (d + 1) 48 1101 85 117 [(0, 18, 0, 0), (1, 0, 0, 3)] [] G1 I1 Q) : kWP xs false (d + 1) 52 1180 85 117 [(0, 18, 0, 0), (1, 0, 0, 2)] [] G I Q := by
  have e2 : G.2.2 0 2 = 2 := hB.1.ref (r := 0) (f := 2) (v := 2) (by decide +kernel)
  have t2 : G.2.1 2 = (8, 12) := (hB.1.2.1 2 (by decide +kernel)).trans (by decide +kernel)
  refine n_C_new_117_2 ?_
  rw [e2, t2, show w32 (2 + 1) = 3 from by decide]
  refine ⟨by decide, fun hh => absurd hh (by decide), fun _ => ⟨by decide, ct_Picture (r := 49) (by have e := hB.1.1; rw [cx117_1_l] at e; omega) (hB.nw 13 8) (by decide +kernel) (fun f => okf_w hB.1 (by decide +kernel)) (fun G1 I1 c1 => ⟨by decide, h _ _ ?_⟩)⟩⟩
  exact c1.pt (r := 2) (f := 2) (v := 49) rfl rfl (by have e := hB.1.1; rw [cx117_1_l] at e; omega) (by decide +kernel) (by decide +kernel)
def cx117_3 : CR := cpt (picC (cnw cx117_2 13 8) 53) 2 3 53
theorem cx117_3_l : cx117_3.1.length = 57 := by decide +kernel
theorem s_C_117_3 {xs : KS} {d : Nat} {G : KG} {I : KI} {Q : KQ} (hB : Bld2 cx117_2 G I) (h : ∀ (G1 : KG) (I1 : KI), Bld2 cx117_3 G1 I1 → kWP xs false (d + 1) 44 1022 85 117 [(0, 18, 0, 0), (1, 0, 0, 4)] [] G1 I1 Q) : kWP xs false (d + 1) 48 1101 85 117 [(0, 18, 0, 0), (1, 0, 0, 3)] [] G I Q := by
  have e2 : G.2.2 0 2 = 2 := hB.1.ref (r := 0) (f := 2) (v := 2) (by decide +kernel)
  have t2 : G.2.1 2 = (8, 12) := (hB.1.2.1 2 (by decide +kernel)).trans (by decide +kernel)
  refine n_C_new_117_3 ?_
  rw [e2, t2, show w32 (3 + 1) = 4 from by decide]
  refine ⟨by decide, fun hh => absurd hh (by decide), fun _ => ⟨by decide, ct_Picture (r := 53) (by have e := hB.1.1; rw [cx117_2_l] at e; omega) (hB.nw 13 8) (by decide +kernel) (fun f => okf_w hB.1 (by decide +kernel)) (fun G1 I1 c1 => ⟨by decide, h _ _ ?_⟩)⟩⟩
  exact c1.pt (r := 2) (f := 3) (v := 53) rfl rfl (by have e := hB.1.1; rw [cx117_2_l] at e; omega) (by decide +kernel) (by decide +kernel)
def cx117_4 : CR := cpt (picC (cnw cx117_3 13 8) 57) 2 4 57
theorem cx117_4_l : cx117_4.1.length = 61 := by decide +kernel
theorem s_C_117_4 {xs : KS} {d : Nat} {G : KG} {I : KI} {Q : KQ} (hB : Bld2 cx117_3 G I) (h : ∀ (G1 : KG) (I1 : KI), Bld2 cx117_4 G1 I1 → kWP xs false (d + 1) 40 943 85 117 [(0, 18, 0, 0), (1, 0, 0, 5)] [] G1 I1 Q) : kWP xs false (d + 1) 44 1022 85 117 [(0, 18, 0, 0), (1, 0, 0, 4)] [] G I Q := by
  have e2 : G.2.2 0 2 = 2 := hB.1.ref (r := 0) (f := 2) (v := 2) (by decide +kernel)
  have t2 : G.2.1 2 = (8, 12) := (hB.1.2.1 2 (by decide +kernel)).trans (by decide +kernel)
  refine n_C_new_117_4 ?_
  rw [e2, t2, show w32 (4 + 1) = 5 from by decide]
  refine ⟨by decide, fun hh => absurd hh (by decide), fun _ => ⟨by decide, ct_Picture (r := 57) (by have e := hB.1.1; rw [cx117_3_l] at e; omega) (hB.nw 13 8) (by decide +kernel) (fun f => okf_w hB.1 (by decide +kernel)) (fun G1 I1 c1 => ⟨by decide, h _ _ ?_⟩)⟩⟩
  exact c1.pt (r := 2) (f := 4) (v := 57) rfl rfl (by have e := hB.1.1; rw [cx117_3_l] at e; omega) (by decide +kernel) (by decide +kernel)
def cx117_5 : CR := cpt (picC (cnw cx117_4 13 8) 61) 2 5 61
theorem cx117_5_l : cx117_5.1.length = 65 := by decide +kernel
theorem s_C_117_5 {xs : KS} {d : Nat} {G : KG} {I : KI} {Q : KQ} (hB : Bld2 cx117_4 G I) (h : ∀ (G1 : KG) (I1 : KI), Bld2 cx117_5 G1 I1 → kWP xs false (d + 1) 36 864 85 117 [(0, 18, 0, 0), (1, 0, 0, 6)] [] G1 I1 Q) : kWP xs false (d + 1) 40 943 85 117 [(0, 18, 0, 0), (1, 0, 0, 5)] [] G I Q := by
  have e2 : G.2.2 0 2 = 2 := hB.1.ref (r := 0) (f := 2) (v := 2) (by decide +kernel)
  have t2 : G.2.1 2 = (8, 12) := (hB.1.2.1 2 (by decide +kernel)).trans (by decide +kernel)
  refine n_C_new_117_5 ?_
  rw [e2, t2, show w32 (5 + 1) = 6 from by decide]
  refine ⟨by decide, fun hh => absurd hh (by decide), fun _ => ⟨by decide, ct_Picture (r := 61) (by have e := hB.1.1; rw [cx117_4_l] at e; omega) (hB.nw 13 8) (by decide +kernel) (fun f => okf_w hB.1 (by decide +kernel)) (fun G1 I1 c1 => ⟨by decide, h _ _ ?_⟩)⟩⟩
  exact c1.pt (r := 2) (f := 5) (v := 61) rfl rfl (by have e := hB.1.1; rw [cx117_4_l] at e; omega) (by decide +kernel) (by decide +kernel)
def cx117_6 : CR := cpt (picC (cnw cx117_5 13 8) 65) 2 6 65
theorem cx117_6_l : cx117_6.1.length = 69 := by decide +kernel
theorem s_C_117_6 {xs : KS} {d : Nat} {G : KG} {I : KI} {Q : KQ} (hB : Bld2 cx117_5 G I) (h : ∀ (G1 : KG) (I1 : KI), Bld2 cx117_6 G1 I1 → kWP xs false (d + 1) 32 785 85 117 [(0, 18, 0, 0), (1, 0, 0, 7)] [] G1 I1 Q) : kWP xs false (d + 1) 36 864 85 117 [(0, 18, 0, 0), (1, 0, 0, 6)] [] G I Q := by
  have e2 : G.2.2 0 2 = 2 := hB.1.ref (r := 0) (f := 2) (v := 2) (by decide +kernel)
  have t2 : G.2.1 2 = (8, 12) := (hB.1.2.1 2 (by decide +kernel)).trans (by decide +kernel)
  refine n_C_new_117_6 ?_
  rw [e2, t2, show w32 (6 + 1) = 7 from by decide]
  refine ⟨by decide, fun hh => absurd hh (by decide), fun _ => ⟨by decide, ct_Picture (r := 65) (by have e := hB.1.1; rw [cx117_5_l] at e; omega) (hB.nw 13 8) (by decide +kernel) (fun f => okf_w hB.1 (by decide +kernel)) (fun G1 I1 c1 => ⟨by decide, h _ _ ?_⟩)⟩⟩
  exact c1.pt (r := 2) (f := 6) (v := 65) rfl rfl (by have e := hB.1.1; rw [cx117_5_l] at e; omega) (by decide +kernel) (by decide +kernel)
def cx117_7 : CR := cpt (picC (cnw cx117_6 13 8) 69) 2 7 69
theorem cx117_7_l : cx117_7.1.length = 73 := by decide +kernel
theorem s_C_117_7 {xs : KS} {d : Nat} {G : KG} {I : KI} {Q : KQ} (hB : Bld2 cx117_6 G I) (h : ∀ (G1 : KG) (I1 : KI), Bld2 cx117_7 G1 I1 → kWP xs false (d + 1) 28 706 85 117 [(0, 18, 0, 0), (1, 0, 0, 8)] [] G1 I1 Q) : kWP xs false (d + 1) 32 785 85 117 [(0, 18, 0, 0), (1, 0, 0, 7)] [] G I Q := by
  have e2 : G.2.2 0 2 = 2 := hB.1.ref (r := 0) (f := 2) (v := 2) (by decide +kernel)
  have t2 : G.2.1 2 = (8, 12) := (hB.1.2.1 2 (by decide +kernel)).trans (by decide +kernel)
  refine n_C_new_117_7 ?_
  rw [e2, t2, show w32 (7 + 1) = 8 from by decide]
  refine ⟨by decide, fun hh => absurd hh (by decide), fun _ => ⟨by decide, ct_Picture (r := 69) (by have e := hB.1.1; rw [cx117_6_l] at e; omega) (hB.nw 13 8) (by decide +kernel) (fun f => okf_w hB.1 (by decide +kernel)) (fun G1 I1 c1 => ⟨by decide, h _ _ ?_⟩)⟩⟩
  exact c1.pt (r := 2) (f := 7) (v := 69) rfl rfl (by have e := hB.1.1; rw [cx117_6_l] at e; omega) (by decide +kernel) (by decide +kernel)
def cx117_8 : CR := cpt (picC (cnw cx117_7 13 8) 73) 2 8 73
theorem cx117_8_l : cx117_8.1.length = 77 := by decide +kernel
theorem s_C_117_8 {xs : KS} {d : Nat} {G : KG} {I : KI} {Q : KQ} (hB : Bld2 cx117_7 G I) (h : ∀ (G1 : KG) (I1 : KI), Bld2 cx117_8 G1 I1 → kWP xs false (d + 1) 24 627 85 117 [(0, 18, 0, 0), (1, 0, 0, 9)] [] G1 I1 Q) : kWP xs false (d + 1) 28 706 85 117 [(0, 18, 0, 0), (1, 0, 0, 8)] [] G I Q := by
  have e2 : G.2.2 0 2 = 2 := hB.1.ref (r := 0) (f := 2) (v := 2) (by decide +kernel)
  have t2 : G.2.1 2 = (8, 12) := (hB.1.2.1 2 (by decide +kernel)).trans (by decide +kernel)
  refine n_C_new_117_8 ?_
  rw [e2, t2, show w32 (8 + 1) = 9 from by decide]
  refine ⟨by decide, fun hh => absurd hh (by decide), fun _ => ⟨by decide, ct_Picture (r := 73) (by have e := hB.1.1; rw [cx117_7_l] at e; omega) (hB.nw 13 8) (by decide +kernel) (fun f => okf_w hB.1 (by decide +kernel)) (fun G1 I1 c1 => ⟨by decide, h _ _ ?_⟩)⟩⟩
  exact c1.pt (r := 2) (f := 8) (v := 73) rfl rfl (by have e := hB.1.1; rw [cx117_7_l] at e; omega) (by decide +kernel) (by decide +kernel)
def cx117_9 : CR := cpt (picC (cnw cx117_8 13 8) 77) 2 9 77
theorem cx117_9_l : cx117_9.1.length = 81 := by decide +kernel
theorem s_C_117_9 {xs : KS} {d : Nat} {G : KG} {I : KI} {Q : KQ} (hB : Bld2 cx117_8 G I) (h : ∀ (G1 : KG) (I1 : KI), Bld2 cx117_9 G1 I1 → kWP xs false (d + 1) 20 548 85 117 [(0, 18, 0, 0), (1, 0, 0, 10)] [] G1 I1 Q) : kWP xs false (d + 1) 24 627 85 117 [(0, 18, 0, 0), (1, 0, 0, 9)] [] G I Q := by
  have e2 : G.2.2 0 2 = 2 := hB.1.ref (r := 0) (f := 2) (v := 2) (by decide +kernel)
  have t2 : G.2.1 2 = (8, 12) := (hB.1.2.1 2 (by decide +kernel)).trans (by decide +kernel)
  refine n_C_new_117_9 ?_
  rw [e2, t2, show w32 (9 + 1) = 10 from by decide]
  refine ⟨by decide, fun hh => absurd hh (by decide), fun _ => ⟨by decide, ct_Picture (r := 77) (by have e := hB.1.1; rw [cx117_8_l] at e; omega) (hB.nw 13 8) (by decide +kernel) (fun f => okf_w hB.1 (by decide +kernel)) (fun G1 I1 c1 => ⟨by decide, h _ _ ?_⟩)⟩⟩
  exact c1.pt (r := 2) (f := 9) (v := 77) rfl rfl (by have e := hB.1.1; rw [cx117_8_l] at e; omega) (by decide +kernel) (by decide +kernel)
def cx117_10 : CR := cpt (picC (cnw cx117_9 13 8) 81) 2 10 81
theorem cx117_10_l : cx117_10.1.length = 85 := by decide +kernel
theorem s_C_117_10 {xs : KS} {d : Nat} {G : KG} {I : KI} {Q : KQ} (hB : Bld2 cx117_9 G I) (h : ∀ (G1 : KG) (I1 : KI), Bld2 cx117_10 G1 I1 → kWP xs false (d + 1) 16 469 85 117 [(0, 18, 0, 0), (1, 0, 0, 11)] [] G1 I1 Q) : kWP xs false (d + 1) 20 548 85 117 [(0, 18, 0, 0), (1, 0, 0, 10)] [] G I Q := by
  have e2 : G.2.2 0 2 = 2 := hB.1.ref (r := 0) (f := 2) (v := 2) (by decide +kernel)
  have t2 : G.2.1 2 = (8, 12) := (hB.1.2.1 2 (by decide +kernel)).trans (by decide +kernel)
  refine n_C_new_117_10 ?_
  rw [e2, t2, show w32 (10 + 1) = 11 from by decide]
  refine ⟨by decide, fun hh => absurd hh (by decide), fun _ => ⟨by decide, ct_Picture (r := 81) (by have e := hB.1.1; rw [cx117_9_l] at e; omega) (hB.nw 13 8) (by decide +kernel) (fun f => okf_w hB.1 (by decide +kernel)) (fun G1 I1 c1 => ⟨by decide, h _ _ ?_⟩)⟩⟩
  exact c1.pt (r := 2) (f := 10) (v := 81) rfl rfl (by have e := hB.1.1; rw [cx117_9_l] at e; omega) (by decide +kernel) (by decide +kernel)
def cx117_11 : CR := cpt (picC (cnw cx117_10 13 8) 85) 2 11 85
theorem cx117_11_l : cx117_11.1.length = 89 := by decide +kernel
theorem s_C_117_11 {xs : KS} {d : Nat} {G : KG} {I : KI} {Q : KQ} (hB : Bld2 cx117_10 G I) (h : ∀ (G1 : KG) (I1 : KI), Bld2 cx117_11 G1 I1 → kWP xs false (d + 1) 12 390 85 117 [(0, 18, 0, 0), (1, 0, 0, 12)] [] G1 I1 Q) : kWP xs false (d + 1) 16 469 85 117 [(0, 18, 0, 0), (1, 0, 0, 11)] [] G I Q := by
  have e2 : G.2.2 0 2 = 2 := hB.1.ref (r := 0) (f := 2) (v := 2) (by decide +kernel)
  have t2 : G.2.1 2 = (8, 12) := (hB.1.2.1 2 (by decide +kernel)).trans (by decide +kernel)
  refine n_C_new_117_11 ?_
  rw [e2, t2, show w32 (11 + 1) = 12 from by decide]
  refine ⟨by decide, fun hh => absurd hh (by decide), fun _ => ⟨by decide, ct_Picture (r := 85) (by have e := hB.1.1; rw [cx117_10_l] at e; omega) (hB.nw 13 8) (by decide +kernel) (fun f => okf_w hB.1 (by decide +kernel)) (fun G1 I1 c1 => ⟨by decide, h _ _ ?_⟩)⟩⟩
  exact c1.pt (r := 2) (f := 11) (v := 85) rfl rfl (by have e := hB.1.1; rw [cx117_10_l] at e; omega) (by decide +kernel) (by decide +kernel)
theorem s_C_117_12 {xs : KS} {d : Nat} {G : KG} {I : KI} {Q : KQ} (hB : Bld2 cx117_11 G I) (h : kWP xs false (d + 1) 12 390 85 145 [(0, 18, 0, 0)] [] G I Q) : kWP xs false (d + 1) 12 390 85 117 [(0, 18, 0, 0), (1, 0, 0, 12)] [] G I Q := by
  have e2 : G.2.2 0 2 = 2 := hB.1.ref (r := 0) (f := 2) (v := 2) (by decide +kernel)
  have t2 : G.2.1 2 = (8, 12) := (hB.1.2.1 2 (by decide +kernel)).trans (by decide +kernel)
  refine n_C_new_117_12 ?_
  rw [e2, t2]
  exact ⟨by decide, fun _ => h, fun hh => absurd hh (by decide)⟩
def cx147_0 : CR := cpt (shfC (cnw cx117_11 15 5) 89) 40 0 89
theorem cx147_0_l : cx147_0.1.length = 91 := by decide +kernel
theorem s_C_147_0 {xs : KS} {d : Nat} {G : KG} {I : KI} {Q : KQ} (hB : Bld2 cx117_11 G I) (h : ∀ (G1 : KG) (I1 : KI), Bld2 cx147_0 G1 I1 → kWP xs false (d + 1) 10 325 85 147 [(0, 18, 0, 0), (1, 0, 0, 1)] [] G1 I1 Q) : kWP xs false (d + 1) 12 390 85 147 [(0, 18, 0, 0), (1, 0, 0, 0)] [] G I Q := by
  have e2 : G.2.2 0 12 = 40 := hB.1.ref (r := 0) (f := 12) (v := 40) (by decide +kernel)
  have t2 : G.2.1 40 = (9, 6) := (hB.1.2.1 40 (by decide +kernel)).trans (by decide +kernel)
  refine n_C_new_147_0 ?_
  rw [e2, t2, show w32 (0 + 1) = 1 from by decide]
  refine ⟨by decide, fun hh => absurd hh (by decide), fun _ => ⟨by decide, ct_Shelf (r := 89) (by have e := hB.1.1; rw [cx117_11_l] at e; omega) (hB.nw 15 5) (by decide +kernel) (fun f => okf_w hB.1 (by decide +kernel)) (fun G1 I1 c1 => ⟨by decide, h _ _ ?_⟩)⟩⟩
  exact c1.pt (r := 40) (f := 0) (v := 89) rfl rfl (by have e := hB.1.1; rw [cx117_11_l] at e; omega) (by decide +kernel) (by decide +kernel)
def cx147_1 : CR := cpt (shfC (cnw cx147_0 15 5) 91) 40 1 91
theorem cx147_1_l : cx147_1.1.length = 93 := by decide +kernel
theorem s_C_147_1 {xs : KS} {d : Nat} {G : KG} {I : KI} {Q : KQ} (hB : Bld2 cx147_0 G I) (h : ∀ (G1 : KG) (I1 : KI), Bld2 cx147_1 G1 I1 → kWP xs false (d + 1) 8 260 85 147 [(0, 18, 0, 0), (1, 0, 0, 2)] [] G1 I1 Q) : kWP xs false (d + 1) 10 325 85 147 [(0, 18, 0, 0), (1, 0, 0, 1)] [] G I Q := by
  have e2 : G.2.2 0 12 = 40 := hB.1.ref (r := 0) (f := 12) (v := 40) (by decide +kernel)
  have t2 : G.2.1 40 = (9, 6) := (hB.1.2.1 40 (by decide +kernel)).trans (by decide +kernel)
  refine n_C_new_147_1 ?_
  rw [e2, t2, show w32 (1 + 1) = 2 from by decide]
  refine ⟨by decide, fun hh => absurd hh (by decide), fun _ => ⟨by decide, ct_Shelf (r := 91) (by have e := hB.1.1; rw [cx147_0_l] at e; omega) (hB.nw 15 5) (by decide +kernel) (fun f => okf_w hB.1 (by decide +kernel)) (fun G1 I1 c1 => ⟨by decide, h _ _ ?_⟩)⟩⟩
  exact c1.pt (r := 40) (f := 1) (v := 91) rfl rfl (by have e := hB.1.1; rw [cx147_0_l] at e; omega) (by decide +kernel) (by decide +kernel)
def cx147_2 : CR := cpt (shfC (cnw cx147_1 15 5) 93) 40 2 93
theorem cx147_2_l : cx147_2.1.length = 95 := by decide +kernel
theorem s_C_147_2 {xs : KS} {d : Nat} {G : KG} {I : KI} {Q : KQ} (hB : Bld2 cx147_1 G I) (h : ∀ (G1 : KG) (I1 : KI), Bld2 cx147_2 G1 I1 → kWP xs false (d + 1) 6 195 85 147 [(0, 18, 0, 0), (1, 0, 0, 3)] [] G1 I1 Q) : kWP xs false (d + 1) 8 260 85 147 [(0, 18, 0, 0), (1, 0, 0, 2)] [] G I Q := by
  have e2 : G.2.2 0 12 = 40 := hB.1.ref (r := 0) (f := 12) (v := 40) (by decide +kernel)
  have t2 : G.2.1 40 = (9, 6) := (hB.1.2.1 40 (by decide +kernel)).trans (by decide +kernel)
  refine n_C_new_147_2 ?_
  rw [e2, t2, show w32 (2 + 1) = 3 from by decide]
  refine ⟨by decide, fun hh => absurd hh (by decide), fun _ => ⟨by decide, ct_Shelf (r := 93) (by have e := hB.1.1; rw [cx147_1_l] at e; omega) (hB.nw 15 5) (by decide +kernel) (fun f => okf_w hB.1 (by decide +kernel)) (fun G1 I1 c1 => ⟨by decide, h _ _ ?_⟩)⟩⟩
  exact c1.pt (r := 40) (f := 2) (v := 93) rfl rfl (by have e := hB.1.1; rw [cx147_1_l] at e; omega) (by decide +kernel) (by decide +kernel)
def cx147_3 : CR := cpt (shfC (cnw cx147_2 15 5) 95) 40 3 95
theorem cx147_3_l : cx147_3.1.length = 97 := by decide +kernel
theorem s_C_147_3 {xs : KS} {d : Nat} {G : KG} {I : KI} {Q : KQ} (hB : Bld2 cx147_2 G I) (h : ∀ (G1 : KG) (I1 : KI), Bld2 cx147_3 G1 I1 → kWP xs false (d + 1) 4 130 85 147 [(0, 18, 0, 0), (1, 0, 0, 4)] [] G1 I1 Q) : kWP xs false (d + 1) 6 195 85 147 [(0, 18, 0, 0), (1, 0, 0, 3)] [] G I Q := by
  have e2 : G.2.2 0 12 = 40 := hB.1.ref (r := 0) (f := 12) (v := 40) (by decide +kernel)
  have t2 : G.2.1 40 = (9, 6) := (hB.1.2.1 40 (by decide +kernel)).trans (by decide +kernel)
  refine n_C_new_147_3 ?_
  rw [e2, t2, show w32 (3 + 1) = 4 from by decide]
  refine ⟨by decide, fun hh => absurd hh (by decide), fun _ => ⟨by decide, ct_Shelf (r := 95) (by have e := hB.1.1; rw [cx147_2_l] at e; omega) (hB.nw 15 5) (by decide +kernel) (fun f => okf_w hB.1 (by decide +kernel)) (fun G1 I1 c1 => ⟨by decide, h _ _ ?_⟩)⟩⟩
  exact c1.pt (r := 40) (f := 3) (v := 95) rfl rfl (by have e := hB.1.1; rw [cx147_2_l] at e; omega) (by decide +kernel) (by decide +kernel)
def cx147_4 : CR := cpt (shfC (cnw cx147_3 15 5) 97) 40 4 97
theorem cx147_4_l : cx147_4.1.length = 99 := by decide +kernel
theorem s_C_147_4 {xs : KS} {d : Nat} {G : KG} {I : KI} {Q : KQ} (hB : Bld2 cx147_3 G I) (h : ∀ (G1 : KG) (I1 : KI), Bld2 cx147_4 G1 I1 → kWP xs false (d + 1) 2 65 85 147 [(0, 18, 0, 0), (1, 0, 0, 5)] [] G1 I1 Q) : kWP xs false (d + 1) 4 130 85 147 [(0, 18, 0, 0), (1, 0, 0, 4)] [] G I Q := by
  have e2 : G.2.2 0 12 = 40 := hB.1.ref (r := 0) (f := 12) (v := 40) (by decide +kernel)
  have t2 : G.2.1 40 = (9, 6) := (hB.1.2.1 40 (by decide +kernel)).trans (by decide +kernel)
  refine n_C_new_147_4 ?_
  rw [e2, t2, show w32 (4 + 1) = 5 from by decide]
  refine ⟨by decide, fun hh => absurd hh (by decide), fun _ => ⟨by decide, ct_Shelf (r := 97) (by have e := hB.1.1; rw [cx147_3_l] at e; omega) (hB.nw 15 5) (by decide +kernel) (fun f => okf_w hB.1 (by decide +kernel)) (fun G1 I1 c1 => ⟨by decide, h _ _ ?_⟩)⟩⟩
  exact c1.pt (r := 40) (f := 4) (v := 97) rfl rfl (by have e := hB.1.1; rw [cx147_3_l] at e; omega) (by decide +kernel) (by decide +kernel)
def cx147_5 : CR := cpt (shfC (cnw cx147_4 15 5) 99) 40 5 99
theorem cx147_5_l : cx147_5.1.length = 101 := by decide +kernel
theorem s_C_147_5 {xs : KS} {d : Nat} {G : KG} {I : KI} {Q : KQ} (hB : Bld2 cx147_4 G I) (h : ∀ (G1 : KG) (I1 : KI), Bld2 cx147_5 G1 I1 → kWP xs false (d + 1) 0 0 85 147 [(0, 18, 0, 0), (1, 0, 0, 6)] [] G1 I1 Q) : kWP xs false (d + 1) 2 65 85 147 [(0, 18, 0, 0), (1, 0, 0, 5)] [] G I Q := by
  have e2 : G.2.2 0 12 = 40 := hB.1.ref (r := 0) (f := 12) (v := 40) (by decide +kernel)
  have t2 : G.2.1 40 = (9, 6) := (hB.1.2.1 40 (by decide +kernel)).trans (by decide +kernel)
  refine n_C_new_147_5 ?_
  rw [e2, t2, show w32 (5 + 1) = 6 from by decide]
  refine ⟨by decide, fun hh => absurd hh (by decide), fun _ => ⟨by decide, ct_Shelf (r := 99) (by have e := hB.1.1; rw [cx147_4_l] at e; omega) (hB.nw 15 5) (by decide +kernel) (fun f => okf_w hB.1 (by decide +kernel)) (fun G1 I1 c1 => ⟨by decide, h _ _ ?_⟩)⟩⟩
  exact c1.pt (r := 40) (f := 5) (v := 99) rfl rfl (by have e := hB.1.1; rw [cx147_4_l] at e; omega) (by decide +kernel) (by decide +kernel)
theorem s_C_147_6 {xs : KS} {d : Nat} {G : KG} {I : KI} {Q : KQ} (hB : Bld2 cx147_5 G I) (h : kWP xs false (d + 1) 0 0 85 175 [] [] G I Q) : kWP xs false (d + 1) 0 0 85 147 [(0, 18, 0, 0), (1, 0, 0, 6)] [] G I Q := by
  have e2 : G.2.2 0 12 = 40 := hB.1.ref (r := 0) (f := 12) (v := 40) (by decide +kernel)
  have t2 : G.2.1 40 = (9, 6) := (hB.1.2.1 40 (by decide +kernel)).trans (by decide +kernel)
  refine n_C_new_147_6 ?_
  rw [e2, t2]
  exact ⟨by decide, fun _ => h, fun hh => absurd hh (by decide)⟩
theorem ct_C {xs : KS} {d : Nat} {G : KG} {I : KI} {Q : KQ} (hB : Bld2 cx0 G I) (h : ∀ (G1 : KG) (I1 : KI), Bld2 cx147_5 G1 I1 → Q 0 G1 I1) : kWP xs false (d + 2) 100 8543 85 0 [(0, 18, 0, 0)] [] G I Q := by
  refine n_C_new_0 ?_
  refine s_C_4 hB (fun G1 I1 b1 => ?_)
  refine s_C_12 b1 (fun G2 I2 b2 => ?_)
  refine s_C_21 b2 (fun G3 I3 b3 => ?_)
  refine s_C_32 b3 (fun G4 I4 b4 => ?_)
  refine s_C_43 b4 (fun G5 I5 b5 => ?_)
  refine s_C_54 b5 (fun G6 I6 b6 => ?_)
  refine s_C_62 b6 (fun G7 I7 b7 => ?_)
  refine s_C_73 b7 (fun G8 I8 b8 => ?_)
  refine s_C_84 b8 (fun G9 I9 b9 => ?_)
  refine s_C_95 b9 (fun G10 I10 b10 => ?_)
  refine s_C_106 b10 (fun G11 I11 b11 => ?_)
  refine n_C_new_115 ?_
  refine s_C_117_0 b11 (fun G12 I12 b12 => ?_)
  refine s_C_117_1 b12 (fun G13 I13 b13 => ?_)
  refine s_C_117_2 b13 (fun G14 I14 b14 => ?_)
  refine s_C_117_3 b14 (fun G15 I15 b15 => ?_)
  refine s_C_117_4 b15 (fun G16 I16 b16 => ?_)
  refine s_C_117_5 b16 (fun G17 I17 b17 => ?_)
  refine s_C_117_6 b17 (fun G18 I18 b18 => ?_)
  refine s_C_117_7 b18 (fun G19 I19 b19 => ?_)
  refine s_C_117_8 b19 (fun G20 I20 b20 => ?_)
  refine s_C_117_9 b20 (fun G21 I21 b21 => ?_)
  refine s_C_117_10 b21 (fun G22 I22 b22 => ?_)
  refine s_C_117_11 b22 (fun G23 I23 b23 => ?_)
  refine s_C_117_12 b23 ?_
  refine n_C_new_145 ?_
  refine s_C_147_0 b23 (fun G24 I24 b24 => ?_)
  refine s_C_147_1 b24 (fun G25 I25 b25 => ?_)
  refine s_C_147_2 b25 (fun G26 I26 b26 => ?_)
  refine s_C_147_3 b26 (fun G27 I27 b27 => ?_)
  refine s_C_147_4 b27 (fun G28 I28 b28 => ?_)
  refine s_C_147_5 b28 (fun G29 I29 b29 => ?_)
  refine s_C_147_6 b29 ?_
  refine n_C_new_175 ?_
  exact h _ _ b29
def mx0 : CR := cnw cx147_5 19 47
theorem mx0_l : mx0.1.length = 102 := by decide +kernel
def mx4 : CR := cnp mx0 101 1 4 12
theorem mx4_l : mx4.1.length = 103 := by decide +kernel
theorem s_M_4 {xs : KS} {d : Nat} {G : KG} {I : KI} {Q : KQ} (hB : Bld2 mx0 G I) (h : ∀ (G1 : KG) (I1 : KI), Bld2 mx4 G1 I1 → kWP xs false d 26 17051 144 12 [(0, 19, 0, 101)] [] G1 I1 Q) : kWP xs false d 27 17063 144 4 [(0, 19, 0, 101)] [] G I Q := n_M_new_4 (h _ _ (hB.np (r := 101) (f := 1) (t := 4) (n := 12) rfl rfl (by decide +kernel) (by decide +kernel)))
def mx12 : CR := cnp mx4 101 2 4 168
theorem mx12_l : mx12.1.length = 104 := by decide +kernel
theorem s_M_12 {xs : KS} {d : Nat} {G : KG} {I : KI} {Q : KQ} (hB : Bld2 mx4 G I) (h : ∀ (G1 : KG) (I1 : KI), Bld2 mx12 G1 I1 → kWP xs false d 25 16883 144 21 [(0, 19, 0, 101)] [] G1 I1 Q) : kWP xs false d 26 17051 144 12 [(0, 19, 0, 101)] [] G I Q := n_M_new_12 (h _ _ (hB.np (r := 101) (f := 2) (t := 4) (n := 168) rfl rfl (by decide +kernel) (by decide +kernel)))
def mx21 : CR := cnp mx12 101 3 7 168
theorem mx21_l : mx21.1.length = 105 := by decide +kernel
theorem s_M_21 {xs : KS} {d : Nat} {G : KG} {I : KI} {Q : KQ} (hB : Bld2 mx12 G I) (h : ∀ (G1 : KG) (I1 : KI), Bld2 mx21 G1 I1 → kWP xs false d 24 16715 144 30 [(0, 19, 0, 101)] [] G1 I1 Q) : kWP xs false d 25 16883 144 21 [(0, 19, 0, 101)] [] G I Q := n_M_new_21 (h _ _ (hB.np (r := 101) (f := 3) (t := 7) (n := 168) rfl rfl (by decide +kernel) (by decide +kernel)))
def mx30 : CR := cnp mx21 101 4 4 84
theorem mx30_l : mx30.1.length = 106 := by decide +kernel
theorem s_M_30 {xs : KS} {d : Nat} {G : KG} {I : KI} {Q : KQ} (hB : Bld2 mx21 G I) (h : ∀ (G1 : KG) (I1 : KI), Bld2 mx30 G1 I1 → kWP xs false d 23 16631 144 38 [(0, 19, 0, 101)] [] G1 I1 Q) : kWP xs false d 24 16715 144 30 [(0, 19, 0, 101)] [] G I Q := n_M_new_30 (h _ _ (hB.np (r := 101) (f := 4) (t := 4) (n := 84) rfl rfl (by decide +kernel) (by decide +kernel)))
def mx38 : CR := cnp mx30 101 6 4 14
theorem mx38_l : mx38.1.length = 107 := by decide +kernel
theorem s_M_38 {xs : KS} {d : Nat} {G : KG} {I : KI} {Q : KQ} (hB : Bld2 mx30 G I) (h : ∀ (G1 : KG) (I1 : KI), Bld2 mx38 G1 I1 → kWP xs false d 22 16617 144 46 [(0, 19, 0, 101)] [] G1 I1 Q) : kWP xs false d 23 16631 144 38 [(0, 19, 0, 101)] [] G I Q := n_M_new_38 (h _ _ (hB.np (r := 101) (f := 6) (t := 4) (n := 14) rfl rfl (by decide +kernel) (by decide +kernel)))
def mx46 : CR := cnp mx38 101 7 7 14
theorem mx46_l : mx46.1.length = 108 := by decide +kernel
theorem s_M_46 {xs : KS} {d : Nat} {G : KG} {I : KI} {Q : KQ} (hB : Bld2 mx38 G I) (h : ∀ (G1 : KG) (I1 : KI), Bld2 mx46 G1 I1 → kWP xs false d 21 16603 144 54 [(0, 19, 0, 101)] [] G1 I1 Q) : kWP xs false d 22 16617 144 46 [(0, 19, 0, 101)] [] G I Q := n_M_new_46 (h _ _ (hB.np (r := 101) (f := 7) (t := 7) (n := 14) rfl rfl (by decide +kernel) (by decide +kernel)))
def mx54 : CR := cnp mx46 101 8 4 7
theorem mx54_l : mx54.1.length = 109 := by decide +kernel
theorem s_M_54 {xs : KS} {d : Nat} {G : KG} {I : KI} {Q : KQ} (hB : Bld2 mx46 G I) (h : ∀ (G1 : KG) (I1 : KI), Bld2 mx54 G1 I1 → kWP xs false d 20 16596 144 62 [(0, 19, 0, 101)] [] G1 I1 Q) : kWP xs false d 21 16603 144 54 [(0, 19, 0, 101)] [] G I Q := n_M_new_54 (h _ _ (hB.np (r := 101) (f := 8) (t := 4) (n := 7) rfl rfl (by decide +kernel) (by decide +kernel)))
def mx62 : CR := cnp mx54 101 9 4 8
theorem mx62_l : mx62.1.length = 110 := by decide +kernel
theorem s_M_62 {xs : KS} {d : Nat} {G : KG} {I : KI} {Q : KQ} (hB : Bld2 mx54 G I) (h : ∀ (G1 : KG) (I1 : KI), Bld2 mx62 G1 I1 → kWP xs false d 19 16588 144 70 [(0, 19, 0, 101)] [] G1 I1 Q) : kWP xs false d 20 16596 144 62 [(0, 19, 0, 101)] [] G I Q := n_M_new_62 (h _ _ (hB.np (r := 101) (f := 9) (t := 4) (n := 8) rfl rfl (by decide +kernel) (by decide +kernel)))
def mx70 : CR := cnp mx62 101 10 4 7
theorem mx70_l : mx70.1.length = 111 := by decide +kernel
theorem s_M_70 {xs : KS} {d : Nat} {G : KG} {I : KI} {Q : KQ} (hB : Bld2 mx62 G I) (h : ∀ (G1 : KG) (I1 : KI), Bld2 mx70 G1 I1 → kWP xs false d 18 16581 144 78 [(0, 19, 0, 101)] [] G1 I1 Q) : kWP xs false d 19 16588 144 70 [(0, 19, 0, 101)] [] G I Q := n_M_new_70 (h _ _ (hB.np (r := 101) (f := 10) (t := 4) (n := 7) rfl rfl (by decide +kernel) (by decide +kernel)))
def mx78 : CR := cnp mx70 101 11 4 28
theorem mx78_l : mx78.1.length = 112 := by decide +kernel
theorem s_M_78 {xs : KS} {d : Nat} {G : KG} {I : KI} {Q : KQ} (hB : Bld2 mx70 G I) (h : ∀ (G1 : KG) (I1 : KI), Bld2 mx78 G1 I1 → kWP xs false d 17 16553 144 86 [(0, 19, 0, 101)] [] G1 I1 Q) : kWP xs false d 18 16581 144 78 [(0, 19, 0, 101)] [] G I Q := n_M_new_78 (h _ _ (hB.np (r := 101) (f := 11) (t := 4) (n := 28) rfl rfl (by decide +kernel) (by decide +kernel)))
def mx86 : CR := cnp mx78 101 12 4 4
theorem mx86_l : mx86.1.length = 113 := by decide +kernel
theorem s_M_86 {xs : KS} {d : Nat} {G : KG} {I : KI} {Q : KQ} (hB : Bld2 mx78 G I) (h : ∀ (G1 : KG) (I1 : KI), Bld2 mx86 G1 I1 → kWP xs false d 16 16549 144 93 [(0, 19, 0, 101)] [] G1 I1 Q) : kWP xs false d 17 16553 144 86 [(0, 19, 0, 101)] [] G I Q := n_M_new_86 (h _ _ (hB.np (r := 101) (f := 12) (t := 4) (n := 4) rfl rfl (by decide +kernel) (by decide +kernel)))
def mx93 : CR := cnp mx86 101 13 4 121
theorem mx93_l : mx93.1.length = 114 := by decide +kernel
theorem s_M_93 {xs : KS} {d : Nat} {G : KG} {I : KI} {Q : KQ} (hB : Bld2 mx86 G I) (h : ∀ (G1 : KG) (I1 : KI), Bld2 mx93 G1 I1 → kWP xs false d 15 16428 144 101 [(0, 19, 0, 101)] [] G1 I1 Q) : kWP xs false d 16 16549 144 93 [(0, 19, 0, 101)] [] G I Q := n_M_new_93 (h _ _ (hB.np (r := 101) (f := 13) (t := 4) (n := 121) rfl rfl (by decide +kernel) (by decide +kernel)))
def mx101 : CR := cnp mx93 101 14 4 14
theorem mx101_l : mx101.1.length = 115 := by decide +kernel
theorem s_M_101 {xs : KS} {d : Nat} {G : KG} {I : KI} {Q : KQ} (hB : Bld2 mx93 G I) (h : ∀ (G1 : KG) (I1 : KI), Bld2 mx101 G1 I1 → kWP xs false d 14 16414 144 109 [(0, 19, 0, 101)] [] G1 I1 Q) : kWP xs false d 15 16428 144 101 [(0, 19, 0, 101)] [] G I Q := n_M_new_101 (h _ _ (hB.np (r := 101) (f := 14) (t := 4) (n := 14) rfl rfl (by decide +kernel) (by decide +kernel)))
def mx109 : CR := cnp mx101 101 15 4 121
theorem mx109_l : mx109.1.length = 116 := by decide +kernel
theorem s_M_109 {xs : KS} {d : Nat} {G : KG} {I : KI} {Q : KQ} (hB : Bld2 mx101 G I) (h : ∀ (G1 : KG) (I1 : KI), Bld2 mx109 G1 I1 → kWP xs false d 13 16293 144 117 [(0, 19, 0, 101)] [] G1 I1 Q) : kWP xs false d 14 16414 144 109 [(0, 19, 0, 101)] [] G I Q := n_M_new_109 (h _ _ (hB.np (r := 101) (f := 15) (t := 4) (n := 121) rfl rfl (by decide +kernel) (by decide +kernel)))
def mx117 : CR := cnp mx109 101 16 4 120
theorem mx117_l : mx117.1.length = 117 := by decide +kernel
theorem s_M_117 {xs : KS} {d : Nat} {G : KG} {I : KI} {Q : KQ} (hB : Bld2 mx109 G I) (h : ∀ (G1 : KG) (I1 : KI), Bld2 mx117 G1 I1 → kWP xs false d 12 16173 144 125 [(0, 19, 0, 101)] [] G1 I1 Q) : kWP xs false d 13 16293 144 117 [(0, 19, 0, 101)] [] G I Q := n_M_new_117 (h _ _ (hB.np (r := 101) (f := 16) (t := 4) (n := 120) rfl rfl (by decide +kernel) (by decide +kernel)))
def mx125 : CR := cnp mx117 101 18 4 120
theorem mx125_l : mx125.1.length = 118 := by decide +kernel
theorem s_M_125 {xs : KS} {d : Nat} {G : KG} {I : KI} {Q : KQ} (hB : Bld2 mx117 G I) (h : ∀ (G1 : KG) (I1 : KI), Bld2 mx125 G1 I1 → kWP xs false d 11 16053 144 133 [(0, 19, 0, 101)] [] G1 I1 Q) : kWP xs false d 12 16173 144 125 [(0, 19, 0, 101)] [] G I Q := n_M_new_125 (h _ _ (hB.np (r := 101) (f := 18) (t := 4) (n := 120) rfl rfl (by decide +kernel) (by decide +kernel)))
def mx133 : CR := cnp mx125 101 25 4 5
theorem mx133_l : mx133.1.length = 119 := by decide +kernel
theorem s_M_133 {xs : KS} {d : Nat} {G : KG} {I : KI} {Q : KQ} (hB : Bld2 mx125 G I) (h : ∀ (G1 : KG) (I1 : KI), Bld2 mx133 G1 I1 → kWP xs false d 10 16048 144 140 [(0, 19, 0, 101)] [] G1 I1 Q) : kWP xs false d 11 16053 144 133 [(0, 19, 0, 101)] [] G I Q := n_M_new_133 (h _ _ (hB.np (r := 101) (f := 25) (t := 4) (n := 5) rfl rfl (by decide +kernel) (by decide +kernel)))
def mx140 : CR := cnp mx133 101 26 4 7
theorem mx140_l : mx140.1.length = 120 := by decide +kernel
theorem s_M_140 {xs : KS} {d : Nat} {G : KG} {I : KI} {Q : KQ} (hB : Bld2 mx133 G I) (h : ∀ (G1 : KG) (I1 : KI), Bld2 mx140 G1 I1 → kWP xs false d 9 16041 144 148 [(0, 19, 0, 101)] [] G1 I1 Q) : kWP xs false d 10 16048 144 140 [(0, 19, 0, 101)] [] G I Q := n_M_new_140 (h _ _ (hB.np (r := 101) (f := 26) (t := 4) (n := 7) rfl rfl (by decide +kernel) (by decide +kernel)))
def mx148 : CR := cnp mx140 101 28 4 7
theorem mx148_l : mx148.1.length = 121 := by decide +kernel
theorem s_M_148 {xs : KS} {d : Nat} {G : KG} {I : KI} {Q : KQ} (hB : Bld2 mx140 G I) (h : ∀ (G1 : KG) (I1 : KI), Bld2 mx148 G1 I1 → kWP xs false d 8 16034 144 156 [(0, 19, 0, 101)] [] G1 I1 Q) : kWP xs false d 9 16041 144 148 [(0, 19, 0, 101)] [] G I Q := n_M_new_148 (h _ _ (hB.np (r := 101) (f := 28) (t := 4) (n := 7) rfl rfl (by decide +kernel) (by decide +kernel)))
def mx156 : CR := cnp mx148 101 31 4 40
theorem mx156_l : mx156.1.length = 122 := by decide +kernel
theorem s_M_156 {xs : KS} {d : Nat} {G : KG} {I : KI} {Q : KQ} (hB : Bld2 mx148 G I) (h : ∀ (G1 : KG) (I1 : KI), Bld2 mx156 G1 I1 → kWP xs false d 7 15994 144 164 [(0, 19, 0, 101)] [] G1 I1 Q) : kWP xs false d 8 16034 144 156 [(0, 19, 0, 101)] [] G I Q := n_M_new_156 (h _ _ (hB.np (r := 101) (f := 31) (t := 4) (n := 40) rfl rfl (by decide +kernel) (by decide +kernel)))
def mx164 : CR := cnp mx156 101 34 4 15488
theorem mx164_l : mx164.1.length = 123 := by decide +kernel
theorem s_M_164 {xs : KS} {d : Nat} {G : KG} {I : KI} {Q : KQ} (hB : Bld2 mx156 G I) (h : ∀ (G1 : KG) (I1 : KI), Bld2 mx164 G1 I1 → kWP xs false d 6 506 144 173 [(0, 19, 0, 101)] [] G1 I1 Q) : kWP xs false d 7 15994 144 164 [(0, 19, 0, 101)] [] G I Q := n_M_new_164 (h _ _ (hB.np (r := 101) (f := 34) (t := 4) (n := 15488) rfl rfl (by decide +kernel) (by decide +kernel)))
def mx173 : CR := cnp mx164 101 38 4 50
theorem mx173_l : mx173.1.length = 124 := by decide +kernel
theorem s_M_173 {xs : KS} {d : Nat} {G : KG} {I : KI} {Q : KQ} (hB : Bld2 mx164 G I) (h : ∀ (G1 : KG) (I1 : KI), Bld2 mx173 G1 I1 → kWP xs false d 5 456 144 181 [(0, 19, 0, 101)] [] G1 I1 Q) : kWP xs false d 6 506 144 173 [(0, 19, 0, 101)] [] G I Q := n_M_new_173 (h _ _ (hB.np (r := 101) (f := 38) (t := 4) (n := 50) rfl rfl (by decide +kernel) (by decide +kernel)))
def mx181 : CR := cnp mx173 101 39 4 24
theorem mx181_l : mx181.1.length = 125 := by decide +kernel
theorem s_M_181 {xs : KS} {d : Nat} {G : KG} {I : KI} {Q : KQ} (hB : Bld2 mx173 G I) (h : ∀ (G1 : KG) (I1 : KI), Bld2 mx181 G1 I1 → kWP xs false d 4 432 144 189 [(0, 19, 0, 101)] [] G1 I1 Q) : kWP xs false d 5 456 144 181 [(0, 19, 0, 101)] [] G I Q := n_M_new_181 (h _ _ (hB.np (r := 101) (f := 39) (t := 4) (n := 24) rfl rfl (by decide +kernel) (by decide +kernel)))
def mx189 : CR := cnp mx181 101 43 4 6
theorem mx189_l : mx189.1.length = 126 := by decide +kernel
theorem s_M_189 {xs : KS} {d : Nat} {G : KG} {I : KI} {Q : KQ} (hB : Bld2 mx181 G I) (h : ∀ (G1 : KG) (I1 : KI), Bld2 mx189 G1 I1 → kWP xs false d 3 426 144 197 [(0, 19, 0, 101)] [] G1 I1 Q) : kWP xs false d 4 432 144 189 [(0, 19, 0, 101)] [] G I Q := n_M_new_189 (h _ _ (hB.np (r := 101) (f := 43) (t := 4) (n := 6) rfl rfl (by decide +kernel) (by decide +kernel)))
def mx197 : CR := cnp mx189 101 44 4 6
theorem mx197_l : mx197.1.length = 127 := by decide +kernel
theorem s_M_197 {xs : KS} {d : Nat} {G : KG} {I : KI} {Q : KQ} (hB : Bld2 mx189 G I) (h : ∀ (G1 : KG) (I1 : KI), Bld2 mx197 G1 I1 → kWP xs false d 2 420 144 205 [(0, 19, 0, 101)] [] G1 I1 Q) : kWP xs false d 3 426 144 197 [(0, 19, 0, 101)] [] G I Q := n_M_new_197 (h _ _ (hB.np (r := 101) (f := 44) (t := 4) (n := 6) rfl rfl (by decide +kernel) (by decide +kernel)))
def mx205 : CR := cnp mx197 101 45 5 360
theorem mx205_l : mx205.1.length = 128 := by decide +kernel
theorem s_M_205 {xs : KS} {d : Nat} {G : KG} {I : KI} {Q : KQ} (hB : Bld2 mx197 G I) (h : ∀ (G1 : KG) (I1 : KI), Bld2 mx205 G1 I1 → kWP xs false d 1 60 144 214 [(0, 19, 0, 101)] [] G1 I1 Q) : kWP xs false d 2 420 144 205 [(0, 19, 0, 101)] [] G I Q := n_M_new_205 (h _ _ (hB.np (r := 101) (f := 45) (t := 5) (n := 360) rfl rfl (by decide +kernel) (by decide +kernel)))
def mx214 : CR := cnp mx205 101 46 5 60
theorem mx214_l : mx214.1.length = 129 := by decide +kernel
theorem s_M_214 {xs : KS} {d : Nat} {G : KG} {I : KI} {Q : KQ} (hB : Bld2 mx205 G I) (h : ∀ (G1 : KG) (I1 : KI), Bld2 mx214 G1 I1 → kWP xs false d 0 0 144 222 [(0, 19, 0, 101)] [] G1 I1 Q) : kWP xs false d 1 60 144 214 [(0, 19, 0, 101)] [] G I Q := n_M_new_214 (h _ _ (hB.np (r := 101) (f := 46) (t := 5) (n := 60) rfl rfl (by decide +kernel) (by decide +kernel)))
theorem ct_M0 {xs : KS} {d : Nat} {G : KG} {I : KI} {Q : KQ} (hB : Bld2 mx0 G I) (h : ∀ (G1 : KG) (I1 : KI), Bld2 mx214 G1 I1 → kWP xs false d 0 0 144 222 [(0, 19, 0, 101)] [] G1 I1 Q) : kWP xs false (d) 27 17063 144 0 [(0, 19, 0, 101)] [] G I Q := by
  refine n_M_new_0 ?_
  refine s_M_4 hB (fun G1 I1 b1 => ?_)
  refine s_M_12 b1 (fun G2 I2 b2 => ?_)
  refine s_M_21 b2 (fun G3 I3 b3 => ?_)
  refine s_M_30 b3 (fun G4 I4 b4 => ?_)
  refine s_M_38 b4 (fun G5 I5 b5 => ?_)
  refine s_M_46 b5 (fun G6 I6 b6 => ?_)
  refine s_M_54 b6 (fun G7 I7 b7 => ?_)
  refine s_M_62 b7 (fun G8 I8 b8 => ?_)
  refine s_M_70 b8 (fun G9 I9 b9 => ?_)
  refine s_M_78 b9 (fun G10 I10 b10 => ?_)
  refine s_M_86 b10 (fun G11 I11 b11 => ?_)
  refine s_M_93 b11 (fun G12 I12 b12 => ?_)
  refine s_M_101 b12 (fun G13 I13 b13 => ?_)
  refine s_M_109 b13 (fun G14 I14 b14 => ?_)
  refine s_M_117 b14 (fun G15 I15 b15 => ?_)
  refine s_M_125 b15 (fun G16 I16 b16 => ?_)
  refine s_M_133 b16 (fun G17 I17 b17 => ?_)
  refine s_M_140 b17 (fun G18 I18 b18 => ?_)
  refine s_M_148 b18 (fun G19 I19 b19 => ?_)
  refine s_M_156 b19 (fun G20 I20 b20 => ?_)
  refine s_M_164 b20 (fun G21 I21 b21 => ?_)
  refine s_M_173 b21 (fun G22 I22 b22 => ?_)
  refine s_M_181 b22 (fun G23 I23 b23 => ?_)
  refine s_M_189 b23 (fun G24 I24 b24 => ?_)
  refine s_M_197 b24 (fun G25 I25 b25 => ?_)
  refine s_M_205 b25 (fun G26 I26 b26 => ?_)
  refine s_M_214 b26 (fun G27 I27 b27 => ?_)
  exact h _ _ b27
def crC : CR := cx147_5
def crM : CR := mx214
