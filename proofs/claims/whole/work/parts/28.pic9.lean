/-! PICTURES out of pictures -/
abbrev VL : Type := List (Nat × Bool × Bool)
def bldF (B : Bld) (l : VL) : Bld := l.foldl (fun B q => bst B q.1 q.2.1 q.2.2) B
theorem bldF_app (B : Bld) (l m : VL) : bldF B (l ++ m) = bldF (bldF B l) m := by unfold bldF; rw [List.foldl_append]
theorem bldF_one (B : Bld) (q : Nat × Bool × Bool) : bldF B [q] = bst B q.1 q.2.1 q.2.2 := rfl
theorem bst_nd {B : Bld} {nm : Nat} {o s : Bool} (h : B.1.Nodup) : (bst B nm o s).1.Nodup := by
  unfold bst
  by_cases hin : nm ∈ B.1
  · rw [if_pos hin]; exact h
  · rw [if_neg hin]
    rw [List.nodup_append]
    refine ⟨h, by simp, ?_⟩
    intro a ha b hb
    rw [List.mem_singleton.mp hb]
    intro e; subst e; exact hin ha
theorem bst_mem {B : Bld} {nm x : Nat} {o s : Bool} (h : x ∈ (bst B nm o s).1) : x ∈ B.1 ∨ x = nm := by
  unfold bst at h
  by_cases hin : nm ∈ B.1
  · rw [if_pos hin] at h; exact Or.inl h
  · rw [if_neg hin] at h
    rcases List.mem_append.mp h with h | h
    · exact Or.inl h
    · exact Or.inr (List.mem_singleton.mp h)
theorem bst_len {B : Bld} {nm : Nat} {o s : Bool} : (bst B nm o s).2.1.length = B.2.1.length + 1 := by
  unfold bst
  split <;> simp
theorem bldF_len : ∀ (l : VL) (B : Bld), (bldF B l).2.1.length = B.2.1.length + l.length
  | [], B => rfl
  | q :: r, B => by
    show (bldF (bst B q.1 q.2.1 q.2.2) r).2.1.length = _
    rw [bldF_len r, bst_len]; simp; omega
theorem bldF_nd : ∀ (l : VL) {B : Bld}, B.1.Nodup → (bldF B l).1.Nodup
  | [], B, h => h
  | q :: r, B, h => bldF_nd r (B := bst B q.1 q.2.1 q.2.2) (bst_nd h)
theorem bldF_mem : ∀ (l : VL) {B : Bld} {x : Nat}, x ∈ (bldF B l).1 → x ∈ B.1 ∨ ∃ q ∈ l, q.1 = x
  | [], B, x, h => Or.inl h
  | q :: r, B, x, h => by
    rcases bldF_mem r (B := bst B q.1 q.2.1 q.2.2) h with h | ⟨z, hz, hx⟩
    · rcases bst_mem h with h | h
      · exact Or.inl h
      · exact Or.inr ⟨q, List.mem_cons_self, h.symm⟩
    · exact Or.inr ⟨z, List.mem_cons_of_mem _ hz, hx⟩
theorem nd_le : ∀ (n : Nat) (l : List Nat), l.Nodup → (∀ x ∈ l, x < n) → l.length ≤ n
  | 0, l, _, h => by
    cases l with
    | nil => simp
    | cons a r => exact absurd (h a List.mem_cons_self) (Nat.not_lt_zero a)
  | n + 1, l, hn, h => by
    have h1 := nd_le n (l.erase n) (hn.erase n) (fun x hx => by
      have h2 := (hn.mem_erase_iff).mp hx
      have := h x h2.2
      omega)
    by_cases hm : n ∈ l
    · rw [List.length_erase_of_mem hm] at h1; omega
    · rw [List.erase_of_not_mem hm] at h1; omega
/-- room for a name more, where names go one to one to numbers below 7 -/
theorem bcap {l : VL} {nm : Nat} (r : Nat → Nat) (hr : ∀ q ∈ l, r q.1 < 7) (hrn : r nm < 7) (hi : ∀ q ∈ l, ∀ q' ∈ l, r q.1 = r q'.1 → q.1 = q'.1) (hin : ∀ q ∈ l, r q.1 = r nm → q.1 = nm) (hnot : nm ∉ (bldF bs0 l).1) : (bldF bs0 l).1.length < 7 := by
  have hnd := bldF_nd l (B := bs0) (by simp [bs0])
  have hmem : ∀ x ∈ (bldF bs0 l).1, ∃ q ∈ l, q.1 = x := fun x hx => by
    rcases bldF_mem l hx with h | h
    · simp [bs0] at h
    · exact h
  generalize (bldF bs0 l).1 = D at hnd hmem hnot ⊢
  have h1 : ((nm :: D).map r).Nodup := by
    rw [List.map_cons, List.nodup_cons]
    refine ⟨fun h => ?_, ?_⟩
    · obtain ⟨x, hx, hxr⟩ := List.mem_map.mp h
      obtain ⟨q, hq, rfl⟩ := hmem x hx
      have := hin q hq hxr
      rw [this] at hx; exact hnot hx
    · rw [List.nodup_iff_pairwise_ne, List.pairwise_map] at *
      exact hnd.imp_of_mem (fun {a b} ha hb hab e => by
        obtain ⟨q, hq, rfl⟩ := hmem a ha
        obtain ⟨q', hq', rfl⟩ := hmem b hb
        exact hab (hi q hq q' hq' e))
  have h2 := nd_le 7 _ h1 (fun x hx => by
    obtain ⟨y, hy, rfl⟩ := List.mem_map.mp hx
    rcases List.mem_cons.mp hy with rfl | hy
    · exact hrn
    · obtain ⟨q, hq, rfl⟩ := hmem y hy
      exact hr q hq)
  simp at h2
  omega
def vof (P : Pic) (k : Nat) : Nat × Bool × Bool := (pcx P k, pov P k, psg P (pcx P k))
def vlm (P : Pic) (j : Nat) : VL := (List.range j).map (fun k => (pcx P k, !(pov P k), !(psg P (pcx P k))))
def vlt (P : Pic) (j : Nat) : VL := (List.range j).map (fun i => vof P (P.1.length - 1 - i))
def vla (P : Pic) (b j : Nat) : VL := (List.range j).map (fun k => (b + pcx P k, pov P k, psg P (pcx P k)))
def vlw (P : Pic) (g j : Nat) : VL := ((List.range j).filter (fun k => !(g.testBit (pcx P k)))).map (vof P)
theorem bi_if {b : Bool} {A : Prop} {F : Int → Prop} (h1 : b = true → F 1 → A) (h0 : b = false → F 0 → A) (h : F (bi b)) : A := by cases b; exact h0 rfl h; exact h1 rfl h
theorem t_Picture_beMirrorOf {xs : KS} {d : Nat} {p q : Int} {P : Pic} {G : KG} {I : KI} {Q : KQ} (hP : CPic q P I) (hpq : p + 3 ≤ q ∨ q + 2 ≤ p) (h : ∀ I' : KI, CPic p (bldF bs0 (vlm P P.1.length)).2 I' → kfr p (p + 3) I I' → I' p 3 = 0 → Q 0 G I') : kWP xs true (d + 2) 0 0 50 0 [(0, 13, 0, p), (1, 13, 0, q)] [] G I Q := by
  have hl := hP.2.1
  refine b_Picture_beMirrorOf_0 (t_Picture_begin (fun J hB0 hf0 hs0 => ?_))
  refine loop_up (n := P.1.length) (W := fun j => ∀ J : KI, CBld p (bldF bs0 (vlm P j)) J → kfr p (p + 3) I J → J p 3 = 0 → kWP xs true (d + 2) 0 0 50 6 [(0, 13, 0, p), (1, 13, 0, q), (2, 0, 0, (j : Int))] [] G J Q) ?_ ?_ (Nat.zero_le _) J hB0 hf0 hs0
  · intro J hB hf hs
    have hPJ := hP.fr hf (by omega)
    refine b_Picture_beMirrorOf_6 ⟨fun _ => h J hB.1 hf hs, fun h1 => ?_⟩
    rw [hPJ.2.2.2.1] at h1; omega
  · intro j hj ih J hB hf hs
    have hPJ := hP.fr hf (by omega)
    have hc := hPJ.2.2.2.2.1 j hj
    have hstep : ∀ J' : KI, CBld p (bst (bldF bs0 (vlm P j)) (pcx P j) (!(pov P j)) (!(psg P (pcx P j)))) J' → kfr p (p + 3) J J' → J' p 3 = J p 3 → kWP xs true (d + 2) 0 0 50 6 [(0, 13, 0, p), (1, 13, 0, q), (2, 0, 0, (w32 ((j : Int) + 1)))] [] G J' Q := by
      intro J' hB' hf' hs'
      rw [w32_id (by omega) (by omega)]
      refine ih J' ?_ (hf.tr hf') (by rw [hs']; exact hs)
      have e : vlm P (j + 1) = vlm P j ++ [(pcx P j, !(pov P j), !(psg P (pcx P j)))] := by unfold vlm; rw [List.range_succ, List.map_append]; rfl
      rw [e, bldF_app, bldF_one]
      exact hB'
    have hcap : pcx P j ∉ (bldF bs0 (vlm P j)).1 → (bldF bs0 (vlm P j)).1.length < 7 := by
      refine bcap id (fun z hz => ?_) hc.2 (fun _ _ _ _ e => e) (fun _ _ e => e)
      obtain ⟨i, hi, rfl⟩ := List.mem_map.mp hz
      exact (hPJ.2.2.2.2.1 i (by have := List.mem_range.mp hi; omega)).2
    have hlen : (bldF bs0 (vlm P j)).2.1.length < 14 := by rw [bldF_len]; unfold vlm; simp [bs0]; omega
    refine b_Picture_beMirrorOf_6 ⟨fun h1 => ?_, fun _ => ⟨⟨by omega, by omega⟩, t_Picture_isOver hPJ (by omega) ?_⟩⟩
    · rw [hPJ.2.2.2.1] at h1; omega
    · rw [hc.1]
      refine ⟨fun h1 => ⟨⟨by omega, by omega⟩, t_Picture_isPlus hPJ hc.2 ⟨fun h2 => ?_, fun h2 => ?_⟩⟩, fun h1 => ⟨⟨by omega, by omega⟩, t_Picture_isPlus hPJ hc.2 ⟨fun h2 => ?_, fun h2 => ?_⟩⟩⟩
      · rw [bi1 h1, bi1 h2] at hstep
        exact t_Picture_visit (o := false) (s := false) hB (by omega) hlen hcap hstep
      · rw [bi1 h1, bi0 h2] at hstep
        exact t_Picture_visit (o := false) (s := true) hB (by omega) hlen hcap hstep
      · rw [bi0 h1, bi1 h2] at hstep
        exact t_Picture_visit (o := true) (s := false) hB (by omega) hlen hcap hstep
      · rw [bi0 h1, bi0 h2] at hstep
        exact t_Picture_visit (o := true) (s := true) hB (by omega) hlen hcap hstep
theorem t_Picture_beTurned {xs : KS} {d : Nat} {p q : Int} {P : Pic} {G : KG} {I : KI} {Q : KQ} (hP : CPic q P I) (hpq : p + 3 ≤ q ∨ q + 2 ≤ p) (h : ∀ I' : KI, CPic p (bldF bs0 (vlt P P.1.length)).2 I' → kfr p (p + 3) I I' → I' p 3 = 0 → Q 0 G I') : kWP xs true (d + 2) 0 0 51 0 [(0, 13, 0, p), (1, 13, 0, q)] [] G I Q := by
  have hl := hP.2.1
  refine b_Picture_beTurned_0 (t_Picture_begin (fun J hB0 hf0 hs0 => ?_))
  have hPJ0 := hP.fr hf0 (by omega)
  rw [hPJ0.2.2.2.1, w32_id (by omega) (by omega)]
  have key := loop_up (n := P.1.length) (W := fun j => ∀ J : KI, CBld p (bldF bs0 (vlt P j)) J → kfr p (p + 3) I J → J p 3 = 0 → kWP xs true (d + 2) 0 0 51 11 [(0, 13, 0, p), (1, 13, 0, q), (2, 0, 0, ((P.1.length : Int) - 1 - j))] [] G J Q) ?_ ?_ (Nat.zero_le _) J hB0 hf0 hs0
  · rw [show (P.1.length : Int) - 1 - ((0 : Nat) : Int) = (P.1.length : Int) - 1 by omega] at key
    exact key
  · intro J hB hf hs
    refine b_Picture_beTurned_11 ⟨fun _ => h J hB.1 hf hs, fun h1 => by omega⟩
  · intro j hj ih J hB hf hs
    have hPJ := hP.fr hf (by omega)
    have hk : P.1.length - 1 - j < P.1.length := by omega
    have hc := hPJ.2.2.2.2.1 _ hk
    have hcap : pcx P (P.1.length - 1 - j) ∉ (bldF bs0 (vlt P j)).1 → (bldF bs0 (vlt P j)).1.length < 7 := by
      refine bcap id (fun z hz => ?_) hc.2 (fun _ _ _ _ e => e) (fun _ _ e => e)
      obtain ⟨i, hi, rfl⟩ := List.mem_map.mp hz
      exact (hPJ.2.2.2.2.1 (P.1.length - 1 - i) (by have := List.mem_range.mp hi; omega)).2
    have hlen : (bldF bs0 (vlt P j)).2.1.length < 14 := by rw [bldF_len]; unfold vlt; simp [bs0]; omega
    refine b_Picture_beTurned_11 ⟨fun h1 => by omega, fun _ => ⟨⟨by omega, by omega⟩, ?_⟩⟩
    rw [show (P.1.length : Int) - 1 - (j : Int) = ((P.1.length - 1 - j : Nat) : Int) by omega]
    refine t_Picture_isOver hPJ (by omega) ⟨⟨by omega, by omega⟩, ?_⟩
    rw [hc.1]
    refine t_Picture_isPlus hPJ hc.2 (t_Picture_visit hB (by omega) hlen hcap (fun J' hB' hf' hs' => ?_))
    rw [w32_id (by omega) (by omega)]
    rw [show ((P.1.length - 1 - j : Nat) : Int) + (-1) = (P.1.length : Int) - 1 - ((j + 1 : Nat) : Int) by omega]
    refine ih J' ?_ (hf.tr hf') (by rw [hs']; exact hs)
    have e : vlt P (j + 1) = vlt P j ++ [vof P (P.1.length - 1 - j)] := by unfold vlt; rw [List.range_succ, List.map_append]; rfl
    rw [e, bldF_app, bldF_one]
    exact hB'
theorem t_Picture_addAll {xs : KS} {d : Nat} {p q : Int} {P : Pic} {l : VL} {b : Nat} {G : KG} {I : KI} {Q : KQ} (hP : CPic q P I) (hpq : p + 3 ≤ q ∨ q + 2 ≤ p) (hb : b = 0 ∨ b = 7) (hB : CBld p (bldF bs0 l) I) (hcapA : ∀ j, j < P.1.length → b + pcx P j ∉ (bldF bs0 (l ++ vla P b j)).1 → (bldF bs0 (l ++ vla P b j)).1.length < 7)
    (hlen : l.length + P.1.length ≤ 14) (h : ∀ I' : KI, CBld p (bldF bs0 (l ++ vla P b P.1.length)) I' → kfr p (p + 3) I I' → I' p 3 = I p 3 → Q 0 G I') : kWP xs true (d + 1) 0 0 53 0 [(0, 13, 0, p), (1, 13, 0, q), (2, 0, 0, (b : Int))] [] G I Q := by
  have hl := hP.2.1
  refine b_Picture_addAll_0 ?_
  refine loop_up (n := P.1.length) (W := fun j => ∀ J : KI, CBld p (bldF bs0 (l ++ vla P b j)) J → kfr p (p + 3) I J → J p 3 = I p 3 → kWP xs true (d + 1) 0 0 53 2 [(0, 13, 0, p), (1, 13, 0, q), (2, 0, 0, (b : Int)), (3, 0, 0, (j : Int))] [] G J Q) ?_ ?_ (Nat.zero_le _) I (by unfold vla; simpa using hB) (kfr.rf _ _ _) rfl
  · intro J hB hf hs
    have hPJ := hP.fr hf (by omega)
    refine b_Picture_addAll_2 ⟨fun _ => h J hB hf hs, fun h1 => ?_⟩
    rw [hPJ.2.2.2.1] at h1; omega
  · intro j hj ih J hB hf hs
    have hPJ := hP.fr hf (by omega)
    have hc := hPJ.2.2.2.2.1 j hj
    have hln : (bldF bs0 (l ++ vla P b j)).2.1.length < 14 := by rw [bldF_len]; unfold vla; simp [bs0]; omega
    refine b_Picture_addAll_2 ⟨fun h1 => ?_, fun _ => ⟨⟨by omega, by omega⟩, t_Picture_isOver hPJ (by omega) ⟨⟨by omega, by omega⟩, ?_⟩⟩⟩
    · rw [hPJ.2.2.2.1] at h1; omega
    · rw [hc.1, w32_id (x := (b : Int) + _) (by omega) (by omega)]
      rw [show (b : Int) + (pcx P j : Int) = ((b + pcx P j : Nat) : Int) by omega]
      refine t_Picture_isPlus hPJ hc.2 (t_Picture_visit hB (by omega) hln (hcapA j hj) (fun J' hB' hf' hs' => ?_))
      rw [w32_id (by omega) (by omega)]
      refine ih J' ?_ (hf.tr hf') (by rw [hs']; exact hs)
      have e : vla P b (j + 1) = vla P b j ++ [(b + pcx P j, pov P j, psg P (pcx P j))] := by unfold vla; rw [List.range_succ, List.map_append]; rfl
      rw [e, ← List.append_assoc, bldF_app, bldF_one]
      exact hB'
