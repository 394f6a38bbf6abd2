/-! LIKE PLACES odd and even, said of pairs -/
theorem agn_sp {P : Pic} {k j : Nat} (hj : j < P.1.length) (hjk : j ≠ k) (e : pcx P j = pcx P k) : agn P k < P.1.length ∧ agn P k ≠ k ∧ pcx P (agn P k) = pcx P k := by
  have h1 := fnd_lt (f := fun j => decide (j ≠ k) && decide (pcx P j = pcx P k)) hj (by rw [decide_eq_true hjk, decide_eq_true e]; rfl)
  have h2 := fnd_spec h1
  rw [Bool.and_eq_true] at h2
  unfold agn
  simp only
  rw [if_pos h1]
  exact ⟨h1, of_decide_eq_true h2.1, of_decide_eq_true h2.2⟩
theorem par_of {P : Pic} (h2 : ∀ k, k < P.1.length → ∃ j, j < P.1.length ∧ j ≠ k ∧ pcx P j = pcx P k) (h : ∀ j k, j < P.1.length → k < P.1.length → j ≠ k → pcx P j = pcx P k → j % 2 ≠ k % 2) : Par P := fun k hk => by
  obtain ⟨j, hj, hjk, e⟩ := h2 k hk
  obtain ⟨a, b, c⟩ := agn_sp hj hjk e
  exact h _ _ a hk b c
theorem nd_at {P : Pic} (h : P.1.Nodup) {j k : Nat} (hj : j < P.1.length) (hk : k < P.1.length) (e1 : pcx P j = pcx P k) (e2 : pov P j = pov P k) : j = k := by
  unfold pcx at e1
  unfold pov at e2
  rw [List.getD_eq_getElem?_getD, List.getD_eq_getElem?_getD, List.getElem?_eq_getElem hj, List.getElem?_eq_getElem hk] at e1 e2
  have h := List.pairwise_iff_getElem.mp h
  have e : P.1[j] = P.1[k] := Prod.ext e1 e2
  rcases Nat.lt_trichotomy j k with g | g | g
  · exact absurd e (h j k hj hk g)
  · exact g
  · exact absurd e.symm (h k j hk hj g)
theorem par_to {P : Pic} (hok : PicOk P) {j k : Nat} (hj : j < P.1.length) (hk : k < P.1.length) (hjk : j ≠ k) (e : pcx P j = pcx P k) : j % 2 ≠ k % 2 := by
  obtain ⟨a, b, c⟩ := agn_sp hj hjk e
  have hp := hok.2.2.2.2.1 k hk
  have : agn P k = j := nd_at hok.2.1 a hj (c.trans e.symm) (by
    have x : pov P (agn P k) ≠ pov P k := fun hh => b (nd_at hok.2.1 a hk c hh)
    have y : pov P j ≠ pov P k := fun hh => hjk (nd_at hok.2.1 hj hk e hh)
    cases h1 : pov P (agn P k) <;> cases h2 : pov P j <;> cases h3 : pov P k <;> simp_all)
  rw [← this]; exact hp
theorem mate {P : Pic} (hok : PicOk P) {k : Nat} (hk : k < P.1.length) : ∃ j, j < P.1.length ∧ j ≠ k ∧ pcx P j = pcx P k := by
  have hl := hok.lt hk
  obtain ⟨j, hj, e⟩ := List.mem_iff_getElem.mp ((hok.2.2.1 (pcx P k) (!(pov P k))).mpr hl)
  have e1 : pcx P j = pcx P k := by
    have : pcx P j = P.1[j].1 := by
      unfold pcx
      rw [List.getD_eq_getElem?_getD, List.getElem?_eq_getElem hj]; rfl
    rw [this, e]
  have e2 : pov P j = !(pov P k) := by
    have : pov P j = P.1[j].2 := by
      unfold pov
      rw [List.getD_eq_getElem?_getD, List.getElem?_eq_getElem hj]; rfl
    rw [this, e]
  refine ⟨j, hj, fun hh => ?_, e1⟩
  rw [hh] at e2
  cases h : pov P k <;> rw [h] at e2 <;> cases e2
theorem badW_pre : ∀ w ∈ badW, ∀ n, n < 7 → 0 < n → ∃ k, k < 2 * n ∧ n ≤ w.getD k 0 := by
  intro w hw n hn h0
  have h : ∀ w ∈ badW, ∀ n, n < 7 → 0 < n → (List.range (2 * n)).any (fun k => decide (n ≤ w.getD k 0)) = true := by decide +kernel
  obtain ⟨k, hk, e⟩ := List.any_eq_true.mp (h w hw n hn h0)
  exact ⟨k, List.mem_range.mp hk, of_decide_eq_true e⟩
theorem badW_len : ∀ w ∈ badW, w.length = 14 := by decide +kernel
