/-! PICTURES THAT ARE BUILT: good ones -/
theorem nub_ren {r : Nat → Nat} : ∀ (l D : List Nat), (∀ a b, (a ∈ D ∨ a ∈ l) → (b ∈ D ∨ b ∈ l) → r a = r b → a = b) → nubF (D.map r) (l.map r) = (nubF D l).map r
  | [], D, _ => rfl
  | x :: l, D, h => by
    show nubF (if r x ∈ D.map r then D.map r else D.map r ++ [r x]) (l.map r) = (nubF (if x ∈ D then D else D ++ [x]) l).map r
    by_cases hin : x ∈ D
    · rw [if_pos hin, if_pos (List.mem_map.mpr ⟨x, hin, rfl⟩)]
      exact nub_ren l D (fun a b ha hb => h a b (ha.elim Or.inl (fun g => Or.inr (List.mem_cons_of_mem _ g))) (hb.elim Or.inl (fun g => Or.inr (List.mem_cons_of_mem _ g))))
    · have hni : r x ∉ D.map r := fun hh => by
        obtain ⟨y, hy, e⟩ := List.mem_map.mp hh
        have := h y x (Or.inl hy) (Or.inr List.mem_cons_self) e
        rw [this] at hy; exact hin hy
      rw [if_neg hin, if_neg hni, show D.map r ++ [r x] = (D ++ [x]).map r by simp]
      have up : ∀ a, (a ∈ D ++ [x] ∨ a ∈ l) → (a ∈ D ∨ a ∈ x :: l) := fun a ha => by
        rcases ha with g | g
        · rcases List.mem_append.mp g with g | g
          · exact Or.inl g
          · rw [List.mem_singleton.mp g]; exact Or.inr List.mem_cons_self
        · exact Or.inr (List.mem_cons_of_mem _ g)
      exact nub_ren l (D ++ [x]) (fun a b ha hb => h a b (up a ha) (up b hb))
def canon (v : List Nat) : List Nat := v.map (fun x => (nubF [] v).idxOf x)
theorem idx_at {D : List Nat} {x : Nat} (h : x ∈ D) : D.getD (D.idxOf x) 0 = x := by
  have hl := List.idxOf_lt_length_of_mem h
  rw [List.getD_eq_getElem?_getD, List.getElem?_eq_getElem hl]
  exact List.getElem_idxOf hl
theorem idx_inj {D : List Nat} {x y : Nat} (hx : x ∈ D) (hy : y ∈ D) (h : D.idxOf x = D.idxOf y) : x = y := by
  rw [← idx_at hx, ← idx_at hy, h]
theorem nd_idx {D : List Nat} (hD : D.Nodup) : D.map (fun x => D.idxOf x) = List.range D.length := by
  refine List.ext_getElem (by simp) (fun k h1 h2 => ?_)
  have hk : k < D.length := by simpa using h1
  rw [List.getElem_map, List.getElem_range]
  have hm : D[k] ∈ D := List.getElem_mem hk
  have hl := List.idxOf_lt_length_of_mem hm
  have he : D[D.idxOf D[k]] = D[k] := List.getElem_idxOf hl
  have hp := List.pairwise_iff_getElem.mp hD
  rcases Nat.lt_trichotomy (D.idxOf D[k]) k with g | g | g
  · exact absurd he (hp _ _ hl hk g)
  · exact g
  · exact absurd he.symm (hp _ _ hk hl g)
theorem canon_nub (v : List Nat) : nubF [] (canon v) = List.range (nubF [] v).length := by
  have h1 := nub_ren (r := fun x => (nubF [] v).idxOf x) v [] (fun a b ha hb e => by
    have ha' : a ∈ v := ha.elim (fun g => absurd g (by simp)) id
    have hb' : b ∈ v := hb.elim (fun g => absurd g (by simp)) id
    exact idx_inj ((nubF_mem v []).mpr (Or.inr ha')) ((nubF_mem v []).mpr (Or.inr hb')) e)
  show nubF (List.map (fun x => (nubF [] v).idxOf x) []) (v.map (fun x => (nubF [] v).idxOf x)) = _
  rw [h1, nd_idx (nubF_nd v [] List.nodup_nil)]
theorem canon_ren {r : Nat → Nat} {l : List Nat} {n : Nat} (hn : nubF [] l = List.range n) (hr : ∀ a b, a ∈ l → b ∈ l → r a = r b → a = b) : canon (l.map r) = l := by
  have h1 := nub_ren (r := r) l [] (fun a b ha hb e => hr a b (ha.elim (fun g => absurd g (by simp)) id) (hb.elim (fun g => absurd g (by simp)) id) e)
  have h1 : nubF [] (l.map r) = (List.range n).map r := by rw [← hn]; exact h1
  unfold canon
  rw [h1, List.map_map]
  have hm : ∀ x, x ∈ l → x < n := fun x hx => by
    have := (nubF_mem (x := x) l []).mpr (Or.inr hx)
    rw [hn] at this
    exact List.mem_range.mp this
  have hm2 : ∀ x, x < n → x ∈ l := fun x hx => by
    have : x ∈ nubF [] l := by rw [hn]; exact List.mem_range.mpr hx
    exact ((nubF_mem l []).mp this).elim (fun g => absurd g (by simp)) id
  conv => rhs; rw [← List.map_id l]
  refine List.map_congr_left (fun x hx => ?_)
  show ((List.range n).map r).idxOf (r x) = x
  rw [idxOf_map _ _ (fun y hy e => hr y x (hm2 y (List.mem_range.mp hy)) hx e), idxOf_range n x (hm x hx)]
/-- names as they are told -/
def nms (l : VL) : List Nat := l.map (fun q => q.1)
theorem bld_all (l : VL) : (bldF bs0 l).1 = nubF [] (nms l) ∧ (bldF bs0 l).2.2.length = (nubF [] (nms l)).length ∧ (bldF bs0 l).2.1 = l.map (fun q => ((nubF [] (nms l)).idxOf q.1, q.2.1)) := by
  have hok := bld_ok (l := l) l.length (Nat.le_refl _)
  rw [List.take_length] at hok
  obtain ⟨o1, o2, o3⟩ := hok
  have hD : (bldF bs0 l).1 = nubF [] (nms l) := bldF_nub l bs0
  rw [hD] at o2 o3
  refine ⟨hD, o2.symm, List.ext_getElem (by rw [o1]; simp) (fun k h1 h2 => ?_)⟩
  rw [o1] at h1
  obtain ⟨a, b, c⟩ := o3 k h1
  rw [List.getElem_map]
  have e1 : pcx (bldF bs0 l).2 k = ((bldF bs0 l).2.1[k]).1 := by
    unfold pcx
    rw [List.getD_eq_getElem?_getD, List.getElem?_eq_getElem]; rfl
  have e2 : pov (bldF bs0 l).2 k = ((bldF bs0 l).2.1[k]).2 := by
    unfold pov
    rw [List.getD_eq_getElem?_getD, List.getElem?_eq_getElem]; rfl
  refine Prod.ext ?_ ?_
  · rw [← e1, b, vq_get h1]
  · rw [← e2, c, vq_get h1]
theorem bld_nm (l : VL) : (bldF bs0 l).2.1.map Prod.fst = canon (nms l) := by
  rw [(bld_all l).2.2, List.map_map]
  unfold canon nms
  rw [List.map_map]
  rfl
theorem bld_w {l : VL} (hnd : (l.map (fun q => (q.1, q.2.1))).Nodup) (hb : ∀ q ∈ l, ∀ b, ∃ q' ∈ l, q'.1 = q.1 ∧ q'.2.1 = b) (h7 : (nubF [] (nms l)).length ≤ 7) : PicW (bldF bs0 l).2 := by
  obtain ⟨a1, a2, a3⟩ := bld_all l
  have hm : ∀ q ∈ l, q.1 ∈ nubF [] (nms l) := fun q hq => (nubF_mem _ _).mpr (Or.inr (List.mem_map.mpr ⟨q, hq, rfl⟩))
  refine ⟨by rw [a2]; exact h7, ?_, fun c b => ?_, ?_⟩
  · rw [a3]
    rw [List.Nodup, List.pairwise_map] at hnd ⊢
    refine List.Pairwise.imp_of_mem (fun {x y} hx hy hne e => hne ?_) hnd
    have e := Prod.mk.inj e
    exact Prod.ext (idx_inj (hm x hx) (hm y hy) e.1) e.2
  · rw [a2, a3, List.mem_map]
    constructor
    · rintro ⟨q, hq, e⟩
      have e := Prod.mk.inj e
      rw [← e.1]
      exact List.idxOf_lt_length_of_mem (hm q hq)
    · intro hc
      have hx : (nubF [] (nms l))[c] ∈ nubF [] (nms l) := List.getElem_mem hc
      have hx2 := ((nubF_mem _ _).mp hx).elim (fun g => absurd g (by simp)) id
      obtain ⟨q, hq, e⟩ := List.mem_map.mp hx2
      obtain ⟨q', hq', e1, e2⟩ := hb q hq b
      refine ⟨q', hq', Prod.ext ?_ e2⟩
      show (nubF [] (nms l)).idxOf q'.1 = c
      rw [e1, e]
      have := congrArg (fun l => l[c]?) (nd_idx (nubF_nd (nms l) [] List.nodup_nil))
      simp only [List.getElem?_map] at this
      rw [List.getElem?_eq_getElem hc, List.getElem?_eq_getElem (by simpa using hc), List.getElem_range] at this
      exact Option.some.inj this
  · rw [bld_nm, canon_nub, a2]
/-- like names at places odd and even -/
def ParL (w : List Nat) : Prop := ∀ j k, j < w.length → k < w.length → j ≠ k → w.getD j 0 = w.getD k 0 → j % 2 ≠ k % 2
theorem pcx_nm (P : Pic) (k : Nat) : pcx P k = (P.1.map Prod.fst).getD k 0 := by
  unfold pcx
  rw [List.getD_eq_getElem?_getD, List.getD_eq_getElem?_getD, List.getElem?_map]
  cases P.1[k]? <;> rfl
theorem PicW.ok {P : Pic} (h : PicW P) (hp : ParL (P.1.map Prod.fst)) (hb : P.1.map Prod.fst ∉ badW) : PicOk P :=
  ⟨h.1, h.2.1, h.2.2.1, h.2.2.2, par_of (fun _ hk => mateW h hk) (fun j k hj hk hjk e => by
    rw [pcx_nm, pcx_nm] at e
    exact hp j k (by simpa using hj) (by simpa using hk) hjk e), hb⟩
theorem PicOk.pl {P : Pic} (h : PicOk P) : ParL (P.1.map Prod.fst) := fun j k hj hk hjk e => by
  rw [← pcx_nm, ← pcx_nm] at e
  exact par_to h (by simpa using hj) (by simpa using hk) hjk e
theorem getD_map0 {l : List Nat} {f : Nat → Nat} {k : Nat} (hk : k < l.length) : (l.map f).getD k 0 = f (l.getD k 0) := by
  rw [List.getD_eq_getElem?_getD, List.getElem?_map, List.getElem?_eq_getElem hk, List.getD_eq_getElem?_getD, List.getElem?_eq_getElem hk]; rfl
theorem getD_mem0 {l : List Nat} {k : Nat} (hk : k < l.length) : l.getD k 0 ∈ l := by
  rw [List.getD_eq_getElem?_getD, List.getElem?_eq_getElem hk]
  exact List.getElem_mem hk
theorem canon_par {v : List Nat} (h : ParL v) : ParL (canon v) := fun j k hj hk hjk e => by
  have hj : j < v.length := by unfold canon at hj; simpa using hj
  have hk : k < v.length := by unfold canon at hk; simpa using hk
  unfold canon at e
  rw [getD_map0 hj, getD_map0 hk] at e
  exact h j k hj hk hjk (idx_inj ((nubF_mem v []).mpr (Or.inr (getD_mem0 hj))) ((nubF_mem v []).mpr (Or.inr (getD_mem0 hk))) e)
theorem rev_par {v : List Nat} {n : Nat} (hl : v.length = 2 * n) (h : ParL v) : ParL v.reverse := fun j k hj hk hjk e => by
  rw [List.length_reverse] at hj hk
  have g : ∀ i, i < v.length → v.reverse.getD i 0 = v.getD (v.length - 1 - i) 0 := fun i hi => by
    rw [List.getD_eq_getElem?_getD, List.getElem?_reverse hi, ← List.getD_eq_getElem?_getD]
  rw [g j hj, g k hk] at e
  have := h (v.length - 1 - j) (v.length - 1 - k) (by omega) (by omega) (by omega) e
  omega
/-! TURNED about -/
theorem vlt_nms (P : Pic) : nms (vlt P P.1.length) = (P.1.map Prod.fst).reverse := by
  have e : nms (vlt P P.1.length) = (List.range P.1.length).map (fun i => pcx P (P.1.length - 1 - i)) := by
    unfold nms vlt
    rw [List.map_map]; rfl
  rw [e]
  refine List.ext_getElem (by simp) (fun k h1 h2 => ?_)
  have hk : k < P.1.length := by simpa using h1
  rw [List.getElem_map, List.getElem_range, List.getElem_reverse, List.getElem_map]
  unfold pcx
  rw [List.getD_eq_getElem?_getD, List.getElem?_eq_getElem (by omega)]
  simp
theorem badW_rev : ∀ w ∈ badW, canon w.reverse ∈ badW := by decide +kernel
theorem rbT_ok {P : Pic} (h : PicOk P) : PicOk (rbT P) := by
  have hl := h.len
  have hv : ∀ q, q ∈ vlt P P.1.length ↔ ∃ j, j < P.1.length ∧ q = vof P j := fun q => by
    unfold vlt
    rw [List.mem_map]
    constructor
    · rintro ⟨i, hi, e⟩
      have hi := List.mem_range.mp hi
      exact ⟨P.1.length - 1 - i, by omega, e.symm⟩
    · rintro ⟨j, hj, e⟩
      exact ⟨P.1.length - 1 - j, List.mem_range.mpr (by omega), by rw [e]; congr 1; omega⟩
  have hw : PicW (rbT P) := by
    refine bld_w ?_ (fun q hq b => ?_) ?_
    · unfold vlt
      rw [List.map_map]
      refine nodup_map List.nodup_range (fun a ha b hb e => ?_)
      have ha := List.mem_range.mp ha
      have hb := List.mem_range.mp hb
      have e := Prod.mk.inj e
      have := nd_at h.2.1 (show P.1.length - 1 - a < P.1.length by omega) (show P.1.length - 1 - b < P.1.length by omega) e.1 e.2
      omega
    · obtain ⟨j, hj, rfl⟩ := (hv q).mp hq
      obtain ⟨a, b2, c⟩ := pln_sp h.w (h.lt hj) b
      exact ⟨vof P (pln P (pcx P j) b), (hv _).mpr ⟨_, a, rfl⟩, b2, c⟩
    · show (nubF [] ((vlt P P.1.length).map (fun q => q.1))).length ≤ 7
      rw [nub_len (vlt_names h)]
      exact h.1
  have hn : (rbT P).1.map Prod.fst = canon (P.1.map Prod.fst).reverse := by
    rw [← vlt_nms]; exact bld_nm _
  refine hw.ok ?_ (fun hb => ?_)
  · rw [hn]
    exact canon_par (rev_par (by simpa using hl) h.pl)
  · refine h.2.2.2.2.2 ?_
    have h1 := badW_rev _ hb
    rw [hn] at h1
    have e : canon (canon (P.1.map Prod.fst).reverse).reverse = P.1.map Prod.fst := by
      have : (canon (P.1.map Prod.fst).reverse).reverse = (P.1.map Prod.fst).map (fun x => (nubF [] (P.1.map Prod.fst).reverse).idxOf x) := by
        unfold canon
        rw [← List.map_reverse, List.reverse_reverse]
      rw [this]
      refine canon_ren h.2.2.2.1 (fun a b ha hb e => idx_inj ?_ ?_ e)
      · exact (nubF_mem _ _).mpr (Or.inr (List.mem_reverse.mpr ha))
      · exact (nubF_mem _ _).mpr (Or.inr (List.mem_reverse.mpr hb))
    rw [e] at h1
    exact h1
/-! JOINED -/
theorem jnd_ok {P R : Pic} (h : PicOk P) (g : PicOk R) (h7 : P.2.length + R.2.length ≤ 7) : PicOk (jnd P R) := by
  have hl := h.len
  have gl := g.len
  have hnm : (jnd P R).1.map Prod.fst = P.1.map Prod.fst ++ (R.1.map Prod.fst).map (fun x => P.2.length + x) := by
    unfold jnd
    simp only [List.map_append, List.map_map]
    rfl
  have hw : PicW (jnd P R) := by
    refine ⟨by rw [jnd_l2]; exact h7, ?_, fun c b => ?_, ?_⟩
    · unfold jnd
      rw [List.nodup_append]
      refine ⟨h.2.1, nodup_map g.2.1 (fun a _ b _ e => ?_), fun a ha b hb e => ?_⟩
      · have e := Prod.mk.inj e
        exact Prod.ext (by omega) e.2
      · obtain ⟨q, hq, rfl⟩ := List.mem_map.mp hb
        obtain ⟨a1, a2⟩ := a
        have e := Prod.mk.inj e
        have := (h.2.2.1 a1 a2).mp ha
        omega
    · rw [jnd_l2]
      unfold jnd
      rw [List.mem_append, h.2.2.1, List.mem_map]
      constructor
      · rintro (hc | ⟨⟨q1, q2⟩, hq, e⟩)
        · omega
        · have e := Prod.mk.inj e
          have := (g.2.2.1 q1 q2).mp hq
          omega
      · intro hc
        by_cases hcp : c < P.2.length
        · exact Or.inl hcp
        · exact Or.inr ⟨(c - P.2.length, b), (g.2.2.1 _ _).mpr (by omega), Prod.ext (by show P.2.length + (c - P.2.length) = c; omega) rfl⟩
    · rw [hnm, nubF_app, h.2.2.2.1, jnd_l2]
      have := nubF_sh P.2.length (R.1.map Prod.fst) []
      rw [List.map_nil, List.append_nil, g.2.2.2.1] at this
      rw [this, List.range_add]
  refine hw.ok (fun j k hj hk hjk e => ?_) (fun hb => ?_)
  · rw [← pcx_nm, ← pcx_nm] at e
    rw [List.length_map, jnd_l1] at hj hk
    have lo : ∀ i, i < P.1.length → pcx (jnd P R) i = pcx P i ∧ pcx P i < P.2.length := fun i hi => ⟨(jnd_u hi).1, h.lt hi⟩
    have hi : ∀ i, P.1.length ≤ i → i < P.1.length + R.1.length → pcx (jnd P R) i = P.2.length + pcx R (i - P.1.length) := fun i h1 h2 => by
      have := (jnd_v (P := P) (R := R) (i - P.1.length)).1
      rw [show P.1.length + (i - P.1.length) = i by omega, if_pos (by omega)] at this
      exact this
    by_cases h1 : j < P.1.length
    · by_cases h2 : k < P.1.length
      · rw [(lo j h1).1, (lo k h2).1] at e
        exact par_to h h1 h2 hjk e
      · rw [(lo j h1).1, hi k (by omega) hk] at e
        have := (lo j h1).2
        omega
    · by_cases h2 : k < P.1.length
      · rw [(lo k h2).1, hi j (by omega) hj] at e
        have := (lo k h2).2
        omega
      · rw [hi j (by omega) hj, hi k (by omega) hk] at e
        have := par_to g (show j - P.1.length < R.1.length by omega) (show k - P.1.length < R.1.length by omega) (by omega) (by omega)
        omega
  · by_cases h1 : P.2.length = 0
    · have : P.1 = [] := List.length_eq_zero_iff.mp (by omega)
      rw [hnm, this, h1] at hb
      simp at hb
      exact g.2.2.2.2.2 hb
    · by_cases h2 : R.2.length = 0
      · have : R.1 = [] := List.length_eq_zero_iff.mp (by omega)
        rw [hnm, this] at hb
        simp at hb
        exact h.2.2.2.2.2 hb
      · obtain ⟨k, hk, hle⟩ := badW_pre _ hb P.2.length (by omega) (by omega)
        rw [← pcx_nm, (jnd_u (by omega)).1] at hle
        have := h.lt (show k < P.1.length by omega)
        omega
