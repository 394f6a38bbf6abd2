/-! CROSSINGS TAKEN OUT leave a good picture -/
theorem flt_at {p : Nat → Bool} : ∀ (m i : Nat) (h : i < ((List.range m).filter p).length), i = (List.range ((List.range m).filter p)[i]).countP p ∧ ((List.range m).filter p)[i] < m ∧ p ((List.range m).filter p)[i] = true
  | 0, i, h => by simp at h
  | m + 1, i, h => by
    have e : (List.range (m + 1)).filter p = (List.range m).filter p ++ (if p m then [m] else []) := by
      rw [List.range_succ, List.filter_append]
      cases hp : p m <;> simp [hp]
    have ih := flt_at (p := p) m i
    by_cases hi : i < ((List.range m).filter p).length
    · obtain ⟨a, b, c⟩ := ih hi
      have e2 : ((List.range (m + 1)).filter p)[i] = ((List.range m).filter p)[i] := by
        have : ((List.range (m + 1)).filter p)[i]? = ((List.range m).filter p)[i]? := by rw [e, List.getElem?_append_left hi]
        rw [List.getElem?_eq_getElem h, List.getElem?_eq_getElem hi] at this
        exact Option.some.inj this
      rw [e2]
      exact ⟨a, by omega, c⟩
    · have hl : ((List.range (m + 1)).filter p).length = ((List.range m).filter p).length + (if p m then [m] else []).length := by rw [e, List.length_append]
      cases hp : p m with
      | false => rw [hp] at hl; simp at hl; omega
      | true =>
        rw [hp] at hl e
        simp at hl
        have hie : i = ((List.range m).filter p).length := by omega
        have e2 : ((List.range (m + 1)).filter p)[i] = m := by
          have : ((List.range (m + 1)).filter p)[i]? = some m := by
            rw [e, List.getElem?_append_right (by omega), hie, Nat.sub_self]; rfl
          rw [List.getElem?_eq_getElem h] at this
          exact Option.some.inj this
        rw [e2]
        exact ⟨by rw [List.countP_eq_length_filter]; exact hie, by omega, hp⟩
theorem cnt_in {S : List Nat} (hS : S.Nodup) (p : Nat → Bool) (j m : Nat) (hj : j ≤ m) (hp : ∀ x, x < m → (p x = true ↔ x ∈ S)) : (List.range j).countP p = S.countP (fun s => decide (s < j)) := by
  rw [List.countP_eq_length_filter, List.countP_eq_length_filter]
  refine List.Perm.length_eq ((List.perm_ext_iff_of_nodup (nd_filter List.nodup_range) (nd_filter hS)).mpr (fun x => ?_))
  rw [List.mem_filter, List.mem_filter, List.mem_range, decide_eq_true_eq]
  constructor
  · rintro ⟨a, b⟩; exact ⟨(hp x (by omega)).mp b, a⟩
  · rintro ⟨a, b⟩; exact ⟨b, (hp x (by omega)).mpr a⟩
def bl (a j : Nat) : Nat := if a < j then 1 else 0
theorem pr2 {m a b j k : Nat} (hf : fol m a b = true) (hab : a ≠ b) (ha : a < m) (hb : b < m) (hj : j < m) (hk : k < m) (ja : j ≠ a) (jb : j ≠ b) (ka : k ≠ a) (kb : k ≠ b) : (bl a j + bl b j) % 2 = (bl a k + bl b k) % 2 := by
  unfold fol at hf
  rw [Bool.or_eq_true, decide_eq_true_eq, decide_eq_true_eq] at hf
  unfold aft at hf
  unfold bl
  rcases hf with hf | hf <;> split at hf <;> split <;> split <;> split <;> split <;> omega
/-- of a move's crossings the visits lie in pairs -/
theorem gbm_pairs {P : Pic} (h : PicOk P) (hg : gbm P ≠ 0) : ∃ S : List Nat, S.Nodup ∧ 2 ≤ S.length ∧ (∀ x, x ∈ S → x < P.1.length) ∧ (∀ x, x < P.1.length → ((gbm P).testBit (pcx P x) = true ↔ x ∈ S)) ∧
    ∀ j k, j < P.1.length → k < P.1.length → j ∉ S → k ∉ S → S.countP (fun s => decide (s < j)) % 2 = S.countP (fun s => decide (s < k)) % 2 := by
  have hw := h.w
  have at_ : ∀ c, c < P.2.length → ∀ x, x < P.1.length → (pcx P x = c ↔ x = pln P c true ∨ x = pln P c false) := fun c hc x hx => by
    constructor
    · intro e
      have := pln_at hw hx
      rw [e] at this
      cases hb : pov P x <;> rw [hb] at this
      · exact Or.inr this
      · exact Or.inl this
    · rintro (e | e)
      · rw [e]; exact (pln_sp hw hc true).2.1
      · rw [e]; exact (pln_sp hw hc false).2.1
  have ou : ∀ c, c < P.2.length → pln P c true ≠ pln P c false := fun c hc e => by
    have h1 := (pln_sp hw hc true).2.2
    rw [e, (pln_sp hw hc false).2.2] at h1; cases h1
  have pw : ∀ c x : Nat, (2 ^ c).testBit x = true ↔ x = c := fun c x => by rw [Nat.testBit_two_pow, decide_eq_true_eq]; exact eq_comm
  unfold gbm at hg ⊢
  split
  · rename_i h1
    rw [if_pos h1] at hg
    have hf := fnd_spec (f := fun c => fol P.1.length (pln P c true) (pln P c false)) h1
    change fol P.1.length (pln P (gb1 P) true) (pln P (gb1 P) false) = true at hf
    have h1 : gb1 P < P.2.length := h1
    generalize gb1 P = c at *
    have o1 := (pln_sp hw h1 true).1
    have u1 := (pln_sp hw h1 false).1
    have hne := ou c h1
    refine ⟨[pln P c true, pln P c false], by simp [hne], by simp, fun x hx => ?_, fun x hx => ?_, fun j k hj hk nj nk => ?_⟩
    · simp at hx
      rcases hx with e | e <;> omega
    · rw [pw, at_ c h1 x hx]
      simp
    · simp at nj nk
      have := pr2 hf hne o1 u1 hj hk nj.1 nj.2 nk.1 nk.2
      unfold bl at this
      simp only [List.countP_cons, List.countP_nil, decide_eq_true_eq]
      omega
  · rename_i h0
    rw [if_neg h0] at hg
    split
    · rename_i h1
      have hf := fnd_spec (f := fun c => decide (gbf P c < P.2.length)) h1
      have hf := of_decide_eq_true hf
      change gbf P (gbc P) < P.2.length at hf
      have hf2 := fnd_spec (f := fun e => decide (gbc P < e) && gb2 P (gbc P) e) hf
      change (decide (gbc P < gbf P (gbc P)) && gb2 P (gbc P) (gbf P (gbc P))) = true at hf2
      have h1 : gbc P < P.2.length := h1
      generalize gbf P (gbc P) = e at *
      generalize gbc P = c at *
      rw [Bool.and_eq_true, decide_eq_true_eq] at hf2
      obtain ⟨hce, hg2⟩ := hf2
      unfold gb2 at hg2
      rw [Bool.and_eq_true, Bool.and_eq_true] at hg2
      obtain ⟨⟨_, fo⟩, fu⟩ := hg2
      obtain ⟨o1, o2, o3⟩ := pln_sp hw h1 true
      obtain ⟨u1, u2, u3⟩ := pln_sp hw h1 false
      obtain ⟨p1, p2, p3⟩ := pln_sp hw hf true
      obtain ⟨q1, q2, q3⟩ := pln_sp hw hf false
      have n1 := ou c h1
      have n2 := ou e hf
      have n3 : ∀ a b, pcx P a = c → pcx P b = e → a ≠ b := fun a b ea eb hh => by rw [hh, eb] at ea; omega
      have m1 := n3 _ _ o2 p2
      have m2 := n3 _ _ o2 q2
      have m3 := n3 _ _ u2 p2
      have m4 := n3 _ _ u2 q2
      have ac := at_ c h1
      have ae := at_ e hf
      generalize pln P c true = a1 at *
      generalize pln P c false = a2 at *
      generalize pln P e true = b1 at *
      generalize pln P e false = b2 at *
      refine ⟨[a1, b1, a2, b2], by simp [n1, n2, m1, m2, m3, m4, Ne.symm m3], by simp, fun x hx => ?_, fun x hx => ?_, fun j k hj hk nj nk => ?_⟩
      · simp at hx
        rcases hx with e | e | e | e <;> omega
      · rw [Nat.testBit_or, Bool.or_eq_true, pw, pw, ac x hx, ae x hx]
        simp
        constructor
        · rintro ((q | q) | (q | q)) <;> simp [q]
        · rintro (q | q | q | q) <;> simp [q]
      · simp at nj nk
        have g1 := pr2 fo m1 o1 p1 hj hk nj.1 nj.2.1 nk.1 nk.2.1
        have g2 := pr2 fu m4 u1 q1 hj hk nj.2.2.1 nj.2.2.2 nk.2.2.1 nk.2.2.2
        unfold bl at g1 g2
        simp only [List.countP_cons, List.countP_nil, decide_eq_true_eq]
        omega
    · rename_i h1
      rw [if_neg h1] at hg
      exact absurd rfl hg
theorem wot_ok {P : Pic} (h : PicOk P) (hg : gbm P ≠ 0) : PicOk (wot P (gbm P)) := by
  have hw := h.w
  have hl := h.len
  obtain ⟨S, s1, s2, s3, s4, s5⟩ := gbm_pairs h hg
  generalize gbm P = g at *
  generalize hK : (List.range P.1.length).filter (fun k => !(g.testBit (pcx P k))) = K
  have hKm : ∀ x, x ∈ K ↔ x < P.1.length ∧ g.testBit (pcx P x) = false := fun x => by
    rw [← hK, List.mem_filter, List.mem_range, Bool.not_eq_true']
  have hKn : K.Nodup := by rw [← hK]; exact nd_filter List.nodup_range
  have hv : vlw P g P.1.length = K.map (vof P) := by unfold vlw; rw [hK]
  have hnm : nms (vlw P g P.1.length) = K.map (pcx P) := by
    unfold nms
    rw [hv, List.map_map]; rfl
  have hPW : PicW (wot P g) := by
    refine bld_w ?_ (fun q hq b => ?_) ?_
    · rw [hv, List.map_map]
      exact nodup_map hKn (fun a ha b hb e => by
        have e := Prod.mk.inj e
        exact nd_at h.2.1 ((hKm a).mp ha).1 ((hKm b).mp hb).1 e.1 e.2)
    · rw [hv] at hq ⊢
      obtain ⟨j, hj, rfl⟩ := List.mem_map.mp hq
      have hj := (hKm j).mp hj
      obtain ⟨a, b2, c⟩ := pln_sp hw (h.lt hj.1) b
      exact ⟨vof P (pln P (pcx P j) b), List.mem_map.mpr ⟨_, (hKm _).mpr ⟨a, by rw [b2]; exact hj.2⟩, rfl⟩, b2, c⟩
    · refine Nat.le_trans (nd_le P.2.length _ (nubF_nd _ [] List.nodup_nil) (fun x hx => ?_)) h.1
      have hx := ((nubF_mem _ _).mp hx).elim (fun q => absurd q (by simp)) id
      rw [hnm] at hx
      obtain ⟨j, hj, rfl⟩ := List.mem_map.mp hx
      exact h.lt ((hKm j).mp hj).1
  have hn : (wot P g).1.map Prod.fst = canon (K.map (pcx P)) := by
    rw [← hnm]; exact bld_nm _
  have hidx : ∀ i (hi : i < K.length), i + S.countP (fun s => decide (s < K[i])) = K[i] ∧ K[i] < P.1.length ∧ K[i] ∉ S := fun i hi => by
    subst hK
    obtain ⟨a, b, c⟩ := flt_at _ i hi
    generalize hy : ((List.range P.1.length).filter (fun k => !(g.testBit (pcx P k))))[i] = y at *
    have h1 := List.length_eq_countP_add_countP (fun k => !(g.testBit (pcx P k))) (l := List.range y)
    rw [List.length_range, ← a] at h1
    have h2 := cnt_in s1 (fun k => g.testBit (pcx P k)) y P.1.length (by omega) s4
    have h3 : (List.range y).countP (fun k => decide ¬ ((!(g.testBit (pcx P k))) = true)) = (List.range y).countP (fun k => g.testBit (pcx P k)) := List.countP_congr (fun x _ => by
      cases g.testBit (pcx P x) <;> simp)
    refine ⟨by omega, b, fun hs => ?_⟩
    rw [(s4 y b).mpr hs] at c; cases c
  refine hPW.ok ?_ (fun hb => ?_)
  · rw [hn]
    refine canon_par (fun j k hj hk hjk e => ?_)
    have hj : j < K.length := by simpa using hj
    have hk : k < K.length := by simpa using hk
    have g1 : (K.map (pcx P)).getD j 0 = pcx P K[j] := by
      rw [List.getD_eq_getElem?_getD, List.getElem?_map, List.getElem?_eq_getElem hj]; rfl
    have g2 : (K.map (pcx P)).getD k 0 = pcx P K[k] := by
      rw [List.getD_eq_getElem?_getD, List.getElem?_map, List.getElem?_eq_getElem hk]; rfl
    rw [g1, g2] at e
    obtain ⟨j1, j2, j3⟩ := hidx j hj
    obtain ⟨k1, k2, k3⟩ := hidx k hk
    have hne : K[j] ≠ K[k] := fun hh => by
      rw [hh] at j1; omega
    have := par_to h j2 k2 hne e
    have := s5 _ _ j2 k2 j3 k3
    omega
  · have h14 := badW_len _ hb
    rw [hn] at h14
    unfold canon at h14
    simp only [List.length_map] at h14
    have h3 := List.length_eq_countP_add_countP (fun k => !(g.testBit (pcx P k))) (l := List.range P.1.length)
    rw [List.length_range, List.countP_eq_length_filter, hK] at h3
    have h4 : (List.range P.1.length).countP (fun k => decide ¬ ((!(g.testBit (pcx P k))) = true)) = (List.range P.1.length).countP (fun k => g.testBit (pcx P k)) := List.countP_congr (fun x _ => by
      cases g.testBit (pcx P x) <;> simp)
    have h5 := cnt_in s1 (fun k => g.testBit (pcx P k)) P.1.length P.1.length (Nat.le_refl _) s4
    have h6 : S.countP (fun s => decide (s < P.1.length)) = S.length := List.countP_eq_length.mpr (fun s hs => decide_eq_true (s3 s hs))
    have := h.1
    omega
