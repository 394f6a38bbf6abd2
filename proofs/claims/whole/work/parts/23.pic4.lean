/-! PICTURES: begin, visit, copy, change -/
theorem t_Picture_begin {xs : KS} {d : Nat} {p : Int} {G : KG} {I : KI} {Q : KQ} (h : ∀ I' : KI, CBld p bs0 I' → kfr p (p + 3) I I' → I' p 3 = 0 → Q 0 G I') : kWP xs true (d + 1) 0 0 32 0 [(0, 13, 0, p)] [] G I Q := by
  refine b_Picture_begin_0 (t_fill (by omega) (fun J hJ => ?_))
  intro J1 e1 J2 e2 J3 e3 J4 e4 J5 e5
  have hfr : kfr p (p + 3) I J5 := by
    intro a k hk
    rw [e5, kst_n (by omega), e4, kst_n (by omega), e3, kst_n (by omega), e2, kst_n (by omega), e1, kst_n (by omega), hJ, if_neg (by omega)]
  have f3 : J5 p 3 = 0 := by rw [e5, kst_n (by omega), e4, kst_n (by omega), e3, kst_n (by omega), e2, kst_n (by omega), e1, kst_s]
  have f4 : J5 p 4 = 0 := by rw [e5, kst_n (by omega), e4, kst_n (by omega), e3, kst_n (by omega), e2, kst_s]
  have f5 : J5 p 5 = 0 := by rw [e5, kst_n (by omega), e4, kst_n (by omega), e3, kst_s]
  have f6 : J5 p 6 = 0 := by rw [e5, kst_n (by omega), e4, kst_s]
  have f7 : J5 p 7 = 0 := by rw [e5, kst_s]
  refine h J5 ⟨⟨by simp [bs0], by simp [bs0], by rw [f4]; rfl, by rw [f5]; rfl, fun k hk => absurd hk (Nat.not_lt_zero _), ⟨0, f6, by omega, fun k _ => ?_⟩, ⟨0, f7, by omega, fun k _ => ?_⟩⟩, rfl, fun n hn => ?_⟩ hfr f3
  · rw [pov_ge (by simp [bs0])]; simp
  · rw [psg_ge (by simp [bs0])]; simp
  · rw [if_neg (by simp [bs0]), e5, kst_n (by omega), e4, kst_n (by omega), e3, kst_n (by omega), e2, kst_n (by omega), e1, kst_n (by omega), hJ, if_pos (by omega)]
theorem t_Picture_visit {xs : KS} {d : Nat} {p : Int} {nm : Nat} {o s : Bool} {G : KG} {I : KI} {Q : KQ} {B : Bld} (hB : CBld p B I) (hnm : nm < 14) (hl : B.2.1.length < 14) (hc : nm ∉ B.1 → B.1.length < 7)
    (h : ∀ I' : KI, CBld p (bst B nm o s) I' → kfr p (p + 3) I I' → I' p 3 = I p 3 → Q 0 G I') : kWP xs true (d) 0 0 33 0 [(0, 13, 0, p), (1, 0, 0, (nm : Int)), (2, 0, 0, bi o), (3, 0, 0, bi s)] [] G I Q := by
  have hB0 := hB
  obtain ⟨⟨c1, c2, c3, c4, c5, ⟨x, x1, x2, x3⟩, ⟨y, y1, y2, y3⟩⟩, b1, b2⟩ := hB
  have hn := b2 nm hnm
  refine b_Picture_visit_0 ⟨fun h1 => by omega, fun _ => ⟨fun h1 => by omega, fun _ => ⟨fun _ => ⟨⟨by omega, by omega⟩, fun h1 => ?_, fun h1 => ?_⟩, fun h1 => by omega⟩⟩⟩
  · have hin : nm ∈ B.1 := by
      by_cases hin : nm ∈ B.1
      · exact hin
      · rw [hn, if_neg hin] at h1; omega
    rw [if_pos hin] at hn
    refine ⟨fun h2 => ?_, fun h2 => ?_⟩
    · have ho : o = false := by cases o <;> simp [bi] at h2 ⊢
      intro J1 e1
      refine ⟨⟨by omega, by omega⟩, ⟨by omega, by omega⟩, fun J2 e2 => ?_⟩
      rw [c4] at e1 e2
      rw [w32_id (by omega) (by omega)] at e1
      have g : ∀ a k, ¬ (a = p ∧ (k = 5 ∨ k = 6)) → ¬ (a = p + 1 ∧ k = (B.2.1.length : Int)) → J2 a k = I a k := fun a k n1 n2 => by rw [e2, kst_n (by omega), e1, kst_n (by omega)]
      refine h J2 (bld_old hB0 hnm hin hl ?_ ?_ ?_ g) (fun a k hk => g a k (by omega) (by omega)) (g _ _ (by omega) (by omega))
      · rw [e2, kst_n (by omega), e1, kst_s]
      · rw [e2, kst_s, e1, kst_n (by omega), hn]
      · rw [ho, if_neg (by simp), e2, kst_n (by omega), e1, kst_n (by omega)]
    · have ho : o = true := by cases o <;> simp [bi] at h2 ⊢
      intro J1 e1 J2 e2
      have g1 : J1 p 5 = (B.2.1.length : Int) := by rw [e1, kst_n (by omega)]; exact c4
      refine ⟨⟨by omega, by omega⟩, ⟨by omega, by omega⟩, fun J3 e3 => ?_⟩
      rw [c4] at e1
      rw [g1] at e2 e3
      rw [w32_id (by omega) (by omega)] at e2
      have g : ∀ a k, ¬ (a = p ∧ (k = 5 ∨ k = 6)) → ¬ (a = p + 1 ∧ k = (B.2.1.length : Int)) → J3 a k = I a k := fun a k n1 n2 => by rw [e3, kst_n (by omega), e2, kst_n (by omega), e1, kst_n (by omega)]
      refine h J3 (bld_old hB0 hnm hin hl ?_ ?_ ?_ g) (fun a k hk => g a k (by omega) (by omega)) (g _ _ (by omega) (by omega))
      · rw [e3, kst_n (by omega), e2, kst_s]
      · rw [e3, kst_s, e2, kst_n (by omega), e1, kst_n (by omega), hn]
      · rw [ho, if_pos rfl, e3, kst_n (by omega), e2, kst_n (by omega), e1, kst_s]
  · have hin : nm ∉ B.1 := by
      intro hin
      rw [hn, if_pos hin] at h1; omega
    rw [if_neg hin] at hn
    have hc7 := hc hin
    have c3b : I p 4 = (B.1.length : Int) := by rw [b1]; exact c3
    refine ⟨fun _ => ⟨fun h2 => ?_, fun h2 => ?_⟩, fun h2 => by omega⟩
    · have hs : s = false := by cases s <;> simp [bi] at h2 ⊢
      intro J1 e1
      rw [c3b, w32_id (by omega) (by omega)] at e1
      refine ⟨⟨by omega, by omega⟩, fun J2 e2 => ?_⟩
      rw [c3b] at e2
      have g2 : J2 p 5 = (B.2.1.length : Int) := by rw [e2, kst_n (by omega), e1, kst_n (by omega)]; exact c4
      refine ⟨fun h3 => ?_, fun h3 => ?_⟩
      · have ho : o = false := by cases o <;> simp [bi] at h3 ⊢
        intro J3 e3
        refine ⟨⟨by omega, by omega⟩, ⟨by omega, by omega⟩, fun J4 e4 => ?_⟩
        rw [g2] at e3 e4
        rw [w32_id (by omega) (by omega)] at e3
        have g : ∀ a k, ¬ (a = p ∧ (k = 4 ∨ k = 5 ∨ k = 6 ∨ k = 7)) → ¬ (a = p + 1 ∧ k = (B.2.1.length : Int)) → ¬ (a = p + 2 ∧ k = (nm : Int)) → J4 a k = I a k := fun a k n1 n2 n3 => by rw [e4, kst_n (by omega), e3, kst_n (by omega), e2, kst_n (by omega), e1, kst_n (by omega)]
        refine h J4 (bld_new hB0 hnm hin hl hc7 ?_ ?_ ?_ ?_ ?_ ?_ g) (fun a k hk => g a k (by omega) (by omega) (by omega)) (g _ _ (by omega) (by omega) (by omega))
        · rw [e4, kst_n (by omega), e3, kst_n (by omega), e2, kst_n (by omega), e1, kst_s]
        · rw [e4, kst_n (by omega), e3, kst_s]
        · rw [e4, kst_s, e3, kst_n (by omega), e2, kst_s]
        · rw [e4, kst_n (by omega), e3, kst_n (by omega), e2, kst_s]
        · rw [ho, if_neg (by simp), e4, kst_n (by omega), e3, kst_n (by omega), e2, kst_n (by omega), e1, kst_n (by omega)]
        · rw [hs, if_neg (by simp), e4, kst_n (by omega), e3, kst_n (by omega), e2, kst_n (by omega), e1, kst_n (by omega)]
      · have ho : o = true := by cases o <;> simp [bi] at h3 ⊢
        intro J3 e3 J4 e4
        have g3 : J3 p 5 = (B.2.1.length : Int) := by rw [e3, kst_n (by omega)]; exact g2
        refine ⟨⟨by omega, by omega⟩, ⟨by omega, by omega⟩, fun J5 e5 => ?_⟩
        rw [g3] at e4 e5
        rw [g2] at e3
        rw [w32_id (by omega) (by omega)] at e4
        have g : ∀ a k, ¬ (a = p ∧ (k = 4 ∨ k = 5 ∨ k = 6 ∨ k = 7)) → ¬ (a = p + 1 ∧ k = (B.2.1.length : Int)) → ¬ (a = p + 2 ∧ k = (nm : Int)) → J5 a k = I a k := fun a k n1 n2 n3 => by rw [e5, kst_n (by omega), e4, kst_n (by omega), e3, kst_n (by omega), e2, kst_n (by omega), e1, kst_n (by omega)]
        refine h J5 (bld_new hB0 hnm hin hl hc7 ?_ ?_ ?_ ?_ ?_ ?_ g) (fun a k hk => g a k (by omega) (by omega) (by omega)) (g _ _ (by omega) (by omega) (by omega))
        · rw [e5, kst_n (by omega), e4, kst_n (by omega), e3, kst_n (by omega), e2, kst_n (by omega), e1, kst_s]
        · rw [e5, kst_n (by omega), e4, kst_s]
        · rw [e5, kst_s, e4, kst_n (by omega), e3, kst_n (by omega), e2, kst_s]
        · rw [e5, kst_n (by omega), e4, kst_n (by omega), e3, kst_n (by omega), e2, kst_s]
        · rw [ho, if_pos rfl, e5, kst_n (by omega), e4, kst_n (by omega), e3, kst_s, e2, kst_n (by omega), e1, kst_n (by omega)]
        · rw [hs, if_neg (by simp), e5, kst_n (by omega), e4, kst_n (by omega), e3, kst_n (by omega), e2, kst_n (by omega), e1, kst_n (by omega)]
    · have hs : s = true := by cases s <;> simp [bi] at h2 ⊢
      intro J0 e0 J1 e1
      have g0 : J0 p 4 = (B.1.length : Int) := by rw [e0, kst_n (by omega)]; exact c3b
      rw [g0, w32_id (by omega) (by omega)] at e1
      refine ⟨⟨by omega, by omega⟩, fun J2 e2 => ?_⟩
      rw [g0] at e2
      rw [c3b] at e0
      have g2 : J2 p 5 = (B.2.1.length : Int) := by rw [e2, kst_n (by omega), e1, kst_n (by omega), e0, kst_n (by omega)]; exact c4
      refine ⟨fun h3 => ?_, fun h3 => ?_⟩
      · have ho : o = false := by cases o <;> simp [bi] at h3 ⊢
        intro J3 e3
        refine ⟨⟨by omega, by omega⟩, ⟨by omega, by omega⟩, fun J4 e4 => ?_⟩
        rw [g2] at e3 e4
        rw [w32_id (by omega) (by omega)] at e3
        have g : ∀ a k, ¬ (a = p ∧ (k = 4 ∨ k = 5 ∨ k = 6 ∨ k = 7)) → ¬ (a = p + 1 ∧ k = (B.2.1.length : Int)) → ¬ (a = p + 2 ∧ k = (nm : Int)) → J4 a k = I a k := fun a k n1 n2 n3 => by rw [e4, kst_n (by omega), e3, kst_n (by omega), e2, kst_n (by omega), e1, kst_n (by omega), e0, kst_n (by omega)]
        refine h J4 (bld_new hB0 hnm hin hl hc7 ?_ ?_ ?_ ?_ ?_ ?_ g) (fun a k hk => g a k (by omega) (by omega) (by omega)) (g _ _ (by omega) (by omega) (by omega))
        · rw [e4, kst_n (by omega), e3, kst_n (by omega), e2, kst_n (by omega), e1, kst_s]
        · rw [e4, kst_n (by omega), e3, kst_s]
        · rw [e4, kst_s, e3, kst_n (by omega), e2, kst_s]
        · rw [e4, kst_n (by omega), e3, kst_n (by omega), e2, kst_s]
        · rw [ho, if_neg (by simp), e4, kst_n (by omega), e3, kst_n (by omega), e2, kst_n (by omega), e1, kst_n (by omega), e0, kst_n (by omega)]
        · rw [hs, if_pos rfl, e4, kst_n (by omega), e3, kst_n (by omega), e2, kst_n (by omega), e1, kst_n (by omega), e0, kst_s]
      · have ho : o = true := by cases o <;> simp [bi] at h3 ⊢
        intro J3 e3 J4 e4
        have g3 : J3 p 5 = (B.2.1.length : Int) := by rw [e3, kst_n (by omega)]; exact g2
        refine ⟨⟨by omega, by omega⟩, ⟨by omega, by omega⟩, fun J5 e5 => ?_⟩
        rw [g3] at e4 e5
        rw [g2] at e3
        rw [w32_id (by omega) (by omega)] at e4
        have g : ∀ a k, ¬ (a = p ∧ (k = 4 ∨ k = 5 ∨ k = 6 ∨ k = 7)) → ¬ (a = p + 1 ∧ k = (B.2.1.length : Int)) → ¬ (a = p + 2 ∧ k = (nm : Int)) → J5 a k = I a k := fun a k n1 n2 n3 => by rw [e5, kst_n (by omega), e4, kst_n (by omega), e3, kst_n (by omega), e2, kst_n (by omega), e1, kst_n (by omega), e0, kst_n (by omega)]
        refine h J5 (bld_new hB0 hnm hin hl hc7 ?_ ?_ ?_ ?_ ?_ ?_ g) (fun a k hk => g a k (by omega) (by omega) (by omega)) (g _ _ (by omega) (by omega) (by omega))
        · rw [e5, kst_n (by omega), e4, kst_n (by omega), e3, kst_n (by omega), e2, kst_n (by omega), e1, kst_s]
        · rw [e5, kst_n (by omega), e4, kst_s]
        · rw [e5, kst_s, e4, kst_n (by omega), e3, kst_n (by omega), e2, kst_s]
        · rw [e5, kst_n (by omega), e4, kst_n (by omega), e3, kst_n (by omega), e2, kst_s]
        · rw [ho, if_pos rfl, e5, kst_n (by omega), e4, kst_n (by omega), e3, kst_s, e2, kst_n (by omega), e1, kst_n (by omega), e0, kst_n (by omega)]
        · rw [hs, if_pos rfl, e5, kst_n (by omega), e4, kst_n (by omega), e3, kst_n (by omega), e2, kst_n (by omega), e1, kst_n (by omega), e0, kst_s]
theorem CPic.moved {p : Int} {P : Pic} {I J : KI} (h : CPic p P I) (h0 : J p 4 = I p 4 ∧ J p 5 = I p 5 ∧ J p 6 = I p 6 ∧ J p 7 = I p 7) (h1 : ∀ k, 0 ≤ k → k < 14 → J (p + 1) k = I (p + 1) k) : CPic p P J := by
  obtain ⟨c1, c2, c3, c4, c5, c6, c7⟩ := h
  refine ⟨c1, c2, by rw [h0.1]; exact c3, by rw [h0.2.1]; exact c4, fun k hk => ?_, by rw [h0.2.2.1]; exact c6, by rw [h0.2.2.2]; exact c7⟩
  rw [h1 _ (by omega) (by omega)]; exact c5 k hk
theorem CPic.fr {p lo hi : Int} {P : Pic} {I J : KI} (h : CPic p P I) (hf : kfr lo hi I J) (hp : p + 1 < lo ∨ hi ≤ p) : CPic p P J := h.moved ⟨hf _ _ (by omega), hf _ _ (by omega), hf _ _ (by omega), hf _ _ (by omega)⟩ (fun k _ _ => hf _ _ (by omega))
theorem t_Picture_copy {xs : KS} {d : Nat} {p q : Int} {G : KG} {I : KI} {Q : KQ} {P : Pic} (hP : CPic q P I) (hpq : p + 2 ≤ q ∨ q + 2 ≤ p)
    (h : ∀ I' : KI, CPic p P I' → kfr p (p + 2) I I' → I' p 3 = 0 → Q 0 G I') : kWP xs true (d) 0 0 34 0 [(0, 13, 0, p), (1, 13, 0, q)] [] G I Q := by
  refine b_Picture_copy_0 ⟨⟨by omega, by omega, by omega, by omega, by omega⟩, ?_⟩
  intro J1 e1 J2 e2 J3 e3 J4 e4 J5 e5 J6 e6
  have k1 : ∀ a k, a ≠ p + 1 → J1 a k = I a k := fun a k ha => by rw [e1]; unfold kcpy; rw [if_neg (by omega)]
  have k2 : ∀ k, 0 ≤ k → k < 14 → J1 (p + 1) k = I (q + 1) k := fun k h0 h1 => by rw [e1]; unfold kcpy; rw [if_pos (by omega)]; congr 1; omega
  have fr : ∀ a k, a ≠ p → J6 a k = J1 a k := fun a k ha => by rw [e6, kst_n (by omega), e5, kst_n (by omega), e4, kst_n (by omega), e3, kst_n (by omega), e2, kst_n (by omega)]
  have f3 : J6 p 3 = 0 := by rw [e6, kst_n (by omega), e5, kst_n (by omega), e4, kst_n (by omega), e3, kst_n (by omega), e2, kst_s]
  have f4 : J6 p 4 = I q 4 := by rw [e6, kst_n (by omega), e5, kst_n (by omega), e4, kst_n (by omega), e3, kst_s, e2, kst_n (by omega), k1 _ _ (by omega)]
  have f5 : J6 p 5 = I q 5 := by rw [e6, kst_n (by omega), e5, kst_n (by omega), e4, kst_s, e3, kst_n (by omega), e2, kst_n (by omega), k1 _ _ (by omega)]
  have f6 : J6 p 6 = I q 6 := by rw [e6, kst_n (by omega), e5, kst_s, e4, kst_n (by omega), e3, kst_n (by omega), e2, kst_n (by omega), k1 _ _ (by omega)]
  have f7 : J6 p 7 = I q 7 := by rw [e6, kst_s, e5, kst_n (by omega), e4, kst_n (by omega), e3, kst_n (by omega), e2, kst_n (by omega), k1 _ _ (by omega)]
  obtain ⟨c1, c2, c3, c4, c5, c6, c7⟩ := hP
  refine h J6 ⟨c1, c2, by rw [f4]; exact c3, by rw [f5]; exact c4, fun k hk => ?_, by rw [f6]; exact c6, by rw [f7]; exact c7⟩ (fun a k hk => ?_) f3
  · rw [fr _ _ (by omega), k2 _ (by omega) (by omega)]; exact c5 k hk
  · rw [fr _ _ (by omega), k1 _ _ (by omega)]
