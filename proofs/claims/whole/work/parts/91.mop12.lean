/-! THE MODEL'S CALLS: join -/
theorem vlj_names {P R : Pic} (hp : PicOk P) (hr : PicOk R) : ∀ x, x ∈ (vla P 0 P.1.length ++ vla R P.2.length R.1.length).map (fun q => q.1) ↔ x < P.2.length + R.2.length := fun x => by
  have nm : ∀ (W : Pic), PicOk W → ∀ y, y < W.2.length → ∃ k, k < W.1.length ∧ pcx W k = y := fun W hW y hy => by
    obtain ⟨k, hk, e⟩ := List.mem_iff_getElem.mp ((hW.2.2.1 y true).mpr hy)
    refine ⟨k, hk, ?_⟩
    unfold pcx
    rw [List.getD_eq_getElem?_getD, List.getElem?_eq_getElem hk]
    show W.1[k].1 = y
    rw [e]
  unfold vla
  rw [List.map_append, List.map_map, List.map_map, List.mem_append, List.mem_map, List.mem_map]
  refine ⟨fun g => ?_, fun hx => ?_⟩
  · rcases g with ⟨k, hk, e⟩ | ⟨k, hk, e⟩
    · have := hp.lt (List.mem_range.mp hk)
      have e : 0 + pcx P k = x := e
      omega
    · have := hr.lt (List.mem_range.mp hk)
      have e : P.2.length + pcx R k = x := e
      omega
  · by_cases hl : x < P.2.length
    · obtain ⟨k, hk, e⟩ := nm P hp x hl
      exact Or.inl ⟨k, List.mem_range.mpr hk, by show 0 + pcx P k = x; omega⟩
    · obtain ⟨k, hk, e⟩ := nm R hr (x - P.2.length) (by omega)
      exact Or.inr ⟨k, List.mem_range.mpr hk, by show P.2.length + pcx R k = x; omega⟩
theorem m_joinN {xs : KS} {d i j : Nat} {ps : List Pic} {G : KG} {I : KI} {Q : KQ} (hS : MPs ps I) (hi : i < ps.length) (hj : j < ps.length) (h12 : ps.length < 12) (oi : PicOk (pget ps i)) (oj : PicOk (pget ps j)) (h7 : (pget ps i).2.length + (pget ps j).2.length ≤ 7) (hP0 : MHd (pget ps i) I)
    (h : ∀ I' : KI, MPs (ps ++ [(bldF bs0 (vla (pget ps i) 0 (pget ps i).1.length ++ vla (pget ps j) (pget ps i).2.length (pget ps j).1.length)).2]) I' → (∀ a k, ¬ (a = 101 ∧ k = 0) → ¬ (a = 101 ∧ k = 5) → ¬ (102 ≤ a ∧ a ≤ 110) → I' a k = I a k) → Q (ps.length : Int) G I') :
    kWP xs true (d + 80) 0 0 199 82 [(0, 19, 0, 101), (2, 0, 0, (j : Int)), (3, 0, 0, ((pget ps i).2.length : Int)), (4, 0, 0, 0)] [] G I Q := by
  have hS2 := hS.2.2 j hj
  have hl1 := oi.len
  have hl2 := oj.len
  generalize hPP : pget ps i = P at *
  generalize hRR : pget ps j = R at *
  obtain ⟨_, _, rn, rv, rs⟩ := hS2
  obtain ⟨_, _, p3, p4, p5⟩ := hP0
  sorry
