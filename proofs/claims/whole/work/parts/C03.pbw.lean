/-! the word's own picture: first visits over, no sign true -/
def wdP (P : Pic) : Pic := pbw (P.1.map Prod.fst) (List.replicate P.2.length false)
theorem wdP_m (P : Pic) : (wdP P).1.map Prod.fst = P.1.map Prod.fst := by
  show ((List.range (P.1.map Prod.fst).length).map _).map Prod.fst = _
  rw [List.map_map]
  apply List.ext_getElem
  · simp
  · intro k h1 h2
    rw [List.getElem_map, List.getElem_range]
    show (P.1.map Prod.fst).getD k 0 = _
    rw [List.getD_eq_getElem?_getD, List.getElem?_eq_getElem h2]; rfl
theorem wdP_l (P : Pic) : (wdP P).1.length = P.1.length := by
  have := congrArg List.length (wdP_m P)
  simpa using this
theorem wdP_n (P : Pic) : (wdP P).2.length = P.2.length := by unfold wdP pbw; simp
theorem wdP_c (P : Pic) (k : Nat) : pcx (wdP P) k = pcx P k := by rw [pcx_nm, pcx_nm, wdP_m]
theorem wdP_v (P : Pic) {k : Nat} (hk : k < P.1.length) : pov (wdP P) k = decide ((P.1.map Prod.fst).idxOf (pcx P k) = k) := by
  rw [pcx_nm]
  exact (pbw_c _ _ (by simpa using hk)).2
theorem ixc_ne {x c : Nat} {r : List Nat} (h : x ≠ c) : (x :: r).idxOf c = r.idxOf c + 1 := by
  rw [List.idxOf_cons]
  have : (x == c) = false := by
    cases hb : x == c with
    | false => rfl
    | true => exact absurd (eq_of_beq hb) h
  rw [this]; rfl
theorem ix_le {c : Nat} : ∀ (l : List Nat) (j : Nat), j < l.length → l.getD j 0 = c → l.idxOf c ≤ j
  | [], j, h, _ => absurd h (Nat.not_lt_zero j)
  | x :: r, j, h, e => by
    by_cases hx : x = c
    · subst hx
      rw [List.idxOf_cons_self]
      exact Nat.zero_le _
    · rw [ixc_ne hx]
      cases j with
      | zero => exact absurd e hx
      | succ j =>
        rw [List.getD_cons_succ] at e
        have := ix_le r j (by simpa using h) e
        omega
theorem fst_ix {P : Pic} (h : PicW P) {c : Nat} (hc : c < P.2.length) : (P.1.map Prod.fst).idxOf c < P.1.length ∧ pcx P ((P.1.map Prod.fst).idxOf c) = c := by
  have hm : c ∈ P.1.map Prod.fst := List.mem_map.mpr ⟨(c, true), (h.2.2.1 c true).mpr hc, rfl⟩
  have h1 := List.idxOf_lt_length_of_mem hm
  rw [List.length_map] at h1
  exact ⟨h1, by rw [pcx_nm]; exact idx_at hm⟩
theorem pc_mem {P : Pic} {k : Nat} (hk : k < P.1.length) : (pcx P k, pov P k) ∈ P.1 := by
  unfold pcx pov
  rw [List.getD_eq_getElem?_getD, List.getElem?_eq_getElem hk]
  exact List.getElem_mem hk
theorem wdP_w {P : Pic} (h : PicW P) : PicW (wdP P) := by
  have hl := wdP_l P
  have hn := wdP_n P
  refine ⟨by rw [hn]; exact h.1, ?_, fun c b => ?_, by rw [wdP_m, hn]; exact h.2.2.2⟩
  · refine List.pairwise_iff_getElem.mpr (fun i j hi hj hij e => ?_)
    refine absurd ?_ (Nat.ne_of_lt hij)
    have e1 : pcx P i = pcx P j := by
      have := congrArg Prod.fst e
      rw [← wdP_c P i, ← wdP_c P j]
      unfold pcx
      rw [List.getD_eq_getElem?_getD, List.getD_eq_getElem?_getD, List.getElem?_eq_getElem hi, List.getElem?_eq_getElem hj]
      exact this
    have e2 : pov (wdP P) i = pov (wdP P) j := by
      have := congrArg Prod.snd e
      unfold pov
      rw [List.getD_eq_getElem?_getD, List.getD_eq_getElem?_getD, List.getElem?_eq_getElem hi, List.getElem?_eq_getElem hj]
      exact this
    rw [hl] at hi hj
    rw [wdP_v P hi, wdP_v P hj, e1] at e2
    obtain ⟨f1, f2⟩ := fst_ix h (h.lt hj)
    generalize hx : (P.1.map Prod.fst).idxOf (pcx P j) = x at *
    by_cases hxi : x = i
    · rw [decide_eq_true hxi] at e2
      have := of_decide_eq_true e2.symm
      omega
    · rw [decide_eq_false hxi] at e2
      have hxj : ¬ x = j := of_decide_eq_false e2.symm
      by_cases hov : pov P i = pov P j
      · exact nd_at h.2.1 hi hj e1 hov
      · exfalso
        by_cases ho2 : pov P x = pov P i
        · exact hxi (nd_at h.2.1 f1 hi (by rw [f2, e1]) ho2)
        · refine hxj (nd_at h.2.1 f1 hj f2 ?_)
          revert hov ho2
          cases pov P i <;> cases pov P j <;> cases pov P x <;> simp
  · rw [hn]
    constructor
    · intro hm
      obtain ⟨k, hk, e⟩ := List.mem_iff_getElem.mp hm
      have hk2 := hk
      rw [hl] at hk2
      have := h.lt hk2
      have e3 : pcx (wdP P) k = c := by
        unfold pcx
        rw [List.getD_eq_getElem?_getD, List.getElem?_eq_getElem hk]
        show (wdP P).1[k].1 = c
        rw [e]
      rw [wdP_c] at e3
      omega
    · intro hc
      obtain ⟨f1, f2⟩ := fst_ix h hc
      have at1 : ∀ k, k < P.1.length → pcx P k = c → (c, pov (wdP P) k) ∈ (wdP P).1 := fun k hk e => by
        have := pc_mem (P := wdP P) (k := k) (by rw [hl]; exact hk)
        rwa [wdP_c, e] at this
      cases b with
      | true =>
        have := at1 _ f1 f2
        rwa [wdP_v P f1, f2, decide_eq_true rfl] at this
      | false =>
        obtain ⟨j, hj, hne, e⟩ := mateW h f1
        rw [f2] at e
        have := at1 _ hj e
        rwa [wdP_v P hj, e, decide_eq_false (fun hh => hne hh.symm)] at this
/-- the two places of a crossing -/
theorem ix1_s (c : Nat) : ∀ (r : List Nat) (k : Nat), c ∈ r → k ≤ ix2.ix1 c r k ∧ ix2.ix1 c r k < k + r.length ∧ r.getD (ix2.ix1 c r k - k) 0 = c
  | [], _, h => absurd h List.not_mem_nil
  | x :: r, k, h => by
    unfold ix2.ix1
    cases hb : Nat.beq x c with
    | true =>
      have e : x = c := Nat.eq_of_beq_eq_true hb
      show k ≤ k ∧ k < k + (r.length + 1) ∧ (x :: r).getD (k - k) 0 = c
      rw [Nat.sub_self]
      exact ⟨Nat.le_refl _, by omega, e⟩
    | false =>
      have hne : x ≠ c := fun e => by rw [e, Nat.beq_refl] at hb; cases hb
      have hr : c ∈ r := (List.mem_cons.mp h).resolve_left (fun e => hne e.symm)
      obtain ⟨a1, a2, a3⟩ := ix1_s c r (k + 1) hr
      show k ≤ ix2.ix1 c r (k + 1) ∧ ix2.ix1 c r (k + 1) < k + (r.length + 1) ∧ (x :: r).getD (ix2.ix1 c r (k + 1) - k) 0 = c
      refine ⟨by omega, by omega, ?_⟩
      rw [show ix2.ix1 c r (k + 1) - k = (ix2.ix1 c r (k + 1) - (k + 1)) + 1 by omega, List.getD_cons_succ]
      exact a3
theorem ix2_s (c : Nat) : ∀ (w : List Nat) (k : Nat), (∃ j, w.idxOf c < j ∧ j < w.length ∧ w.getD j 0 = c) → (ix2 c w k).1 = k + w.idxOf c ∧ (ix2 c w k).1 < (ix2 c w k).2 ∧ (ix2 c w k).2 < k + w.length ∧ w.getD ((ix2 c w k).2 - k) 0 = c
  | [], _, h => by obtain ⟨j, _, h2, _⟩ := h; exact absurd h2 (Nat.not_lt_zero j)
  | x :: r, k, h => by
    obtain ⟨j, h1, h2, h3⟩ := h
    unfold ix2
    cases hb : Nat.beq x c with
    | true =>
      have e : x = c := Nat.eq_of_beq_eq_true hb
      have hj : j ≠ 0 := by omega
      obtain ⟨j, rfl⟩ : ∃ i, j = i + 1 := ⟨j - 1, by omega⟩
      rw [List.getD_cons_succ] at h3
      have hj2 : j < r.length := by simpa using h2
      have hm : c ∈ r := by
        rw [← h3, List.getD_eq_getElem?_getD, List.getElem?_eq_getElem hj2]
        exact List.getElem_mem hj2
      obtain ⟨a1, a2, a3⟩ := ix1_s c r (k + 1) hm
      show k = k + (x :: r).idxOf c ∧ k < ix2.ix1 c r (k + 1) ∧ ix2.ix1 c r (k + 1) < k + (r.length + 1) ∧ (x :: r).getD (ix2.ix1 c r (k + 1) - k) 0 = c
      refine ⟨by subst e; rw [List.idxOf_cons_self]; rfl, by omega, by omega, ?_⟩
      rw [show ix2.ix1 c r (k + 1) - k = (ix2.ix1 c r (k + 1) - (k + 1)) + 1 by omega, List.getD_cons_succ]
      exact a3
    | false =>
      have hne : x ≠ c := fun e => by rw [e, Nat.beq_refl] at hb; cases hb
      rw [ixc_ne hne] at h1
      obtain ⟨j, rfl⟩ : ∃ i, j = i + 1 := ⟨j - 1, by omega⟩
      rw [List.getD_cons_succ] at h3
      have h2' : j < r.length := by simpa using h2
      obtain ⟨a1, a2, a3, a4⟩ := ix2_s c r (k + 1) ⟨j, by omega, h2', h3⟩
      show (ix2 c r (k + 1)).1 = k + (x :: r).idxOf c ∧ (ix2 c r (k + 1)).1 < (ix2 c r (k + 1)).2 ∧ (ix2 c r (k + 1)).2 < k + (r.length + 1) ∧ (x :: r).getD ((ix2 c r (k + 1)).2 - k) 0 = c
      rw [ixc_ne hne]
      refine ⟨by omega, a2, by omega, ?_⟩
      rw [show (ix2 c r (k + 1)).2 - k = ((ix2 c r (k + 1)).2 - (k + 1)) + 1 by omega, List.getD_cons_succ]
      exact a4
theorem ix2_p {P : Pic} (h : PicW P) {c : Nat} (hc : c < P.2.length) : ix2 c (P.1.map Prod.fst) 0 = (pln (wdP P) c true, pln (wdP P) c false) := by
  obtain ⟨f1, f2⟩ := fst_ix h hc
  obtain ⟨j, hj, hne, e⟩ := mateW h f1
  rw [f2] at e
  have hml : (P.1.map Prod.fst).length = P.1.length := List.length_map ..
  have hlt : (P.1.map Prod.fst).idxOf c < j := by
    rcases Nat.lt_trichotomy ((P.1.map Prod.fst).idxOf c) j with g | g | g
    · exact g
    · exact absurd g.symm hne
    · have := ix_le (c := c) (P.1.map Prod.fst) j (by rw [hml]; exact hj) (by rw [← pcx_nm]; exact e)
      omega
  obtain ⟨a1, a2, a3, a4⟩ := ix2_s c (P.1.map Prod.fst) 0 ⟨j, hlt, by rw [hml]; exact hj, by rw [← pcx_nm]; exact e⟩
  rw [Nat.zero_add] at a1 a3
  rw [Nat.sub_zero, ← pcx_nm] at a4
  rw [hml] at a3
  have hw := wdP_w h
  have hl := wdP_l P
  have g1 := pln_at hw (v := (P.1.map Prod.fst).idxOf c) (by rw [hl]; exact f1)
  rw [wdP_c, f2, wdP_v P f1, f2, decide_eq_true rfl] at g1
  have g2 := pln_at hw (v := (ix2 c (P.1.map Prod.fst) 0).2) (by rw [hl]; exact a3)
  rw [wdP_c, a4, wdP_v P a3, a4, decide_eq_false (by omega)] at g2
  exact Prod.ext (a1.trans g1) g2
