/-! EVERY CALL keeps a sound state sound -/
def Kp (op : Op) : Prop := ∀ S, Inv S → Inv (op S).2
theorem Kp.id {op : Op} (h : ∀ S, (op S).2 = S) : Kp op := fun S hS => by rw [h S]; exact hS
theorem inv_add {S : St} {P : Pic} (h : Inv S) (hP : PicOk P) (h12 : ¬ 12 ≤ S.1.length) : Inv (addP S P).2 := by
  obtain ⟨i1, i2, i3, i4, i5, i6, i7, i8⟩ := h
  refine ⟨fun R hR => ?_, ?_, i3, i4, i5, i6, fun x hx => ?_, i8⟩
  · rcases List.mem_append.mp hR with hR | hR
    · exact i1 R hR
    · rw [List.mem_singleton.mp hR]; exact hP
  · show (S.1 ++ [P]).length ≤ 12
    rw [List.length_append, List.length_singleton]; omega
  · obtain ⟨i, c, e, hi, hc⟩ := i7 x hx
    refine ⟨i, c, e, by show i < (S.1 ++ [P]).length; rw [List.length_append]; omega, ?_⟩
    show c < (pget (S.1 ++ [P]) i).2.length
    have : pget (S.1 ++ [P]) i = pget S.1 i := by
      unfold pget
      rw [List.getD_eq_getElem?_getD, List.getElem?_append_left hi, ← List.getD_eq_getElem?_getD]
    rw [this]; exact hc
theorem inv_tape {S : St} {T : List Int} (h : Inv S) (hT : ∀ b ∈ T, 0 ≤ b ∧ b < 256) (hl : T.length ≤ 120) : Inv (S.1, T, S.2.2) := by
  obtain ⟨i1, i2, i3, i4, i5⟩ := h
  exact ⟨i1, i2, hT, hl, i5⟩
theorem inv_tp0 {S : St} (h : Inv S) : Inv (S.1, [], S.2.2) := inv_tape h (fun b hb => absurd hb List.not_mem_nil) (by simp)
theorem kp_feed (n v : Int) : Kp (opFeed n v) := fun S h => by
  unfold opFeed
  split
  · exact h
  · split
    · exact h
    · rename_i h1 h2
      refine inv_tape h (fun b hb => ?_) ?_
      · rcases List.mem_append.mp hb with hb | hb
        · exact h.2.2.1 b hb
        · unfold fdB at hb
          obtain ⟨k, _, rfl⟩ := List.mem_map.mp hb
          exact ⟨Int.emod_nonneg _ (by omega), Int.emod_lt_of_pos _ (by omega)⟩
      · rw [List.length_append]
        unfold fdB
        rw [List.length_map, List.length_range]
        omega
theorem kp_picture : Kp opPicture := fun S h => by
  unfold opPicture
  split
  · exact h
  · rename_i h12
    simp only
    split
    · exact inv_tp0 h
    · rename_i hr
      split
      · rename_i hF
        have hok : RdQ (rtp (fw8 S.2.1) S.2.1.length (S.2.1.length + 1) 0 ([], [])).2 := by
          have key : ∀ (u i : Nat) (P : Pic), RdQ P → RdQ (rtp (fw8 S.2.1) S.2.1.length u i P).2 := by
            intro u
            induction u with
            | zero => intro i P hP; exact hP
            | succ u ih =>
              intro i P hP
              have st : ∀ s, ¬ mcm P (fw8 S.2.1 (i + 1) - 49) (decide (fw8 S.2.1 i = 111)) = false → RdQ (rst P (fw8 S.2.1 (i + 1) - 49).toNat (decide (fw8 S.2.1 i = 111)) s) := fun s hm => by
                have hm : mcm P (fw8 S.2.1 (i + 1) - 49) (decide (fw8 S.2.1 i = 111)) = true := by
                  cases hc : mcm P (fw8 S.2.1 (i + 1) - 49) (decide (fw8 S.2.1 i = 111)) with
                  | true => rfl
                  | false => exact absurd hc hm
                obtain ⟨m1, m2, m3, m4⟩ := mcm_out hm
                exact rst_q hP (by omega) (by omega) (plc_neg.mp m4)
              unfold rtp
              split
              · split <;> exact hP
              · split
                · exact hP
                · split
                  · exact hP
                  · split
                    · exact hP
                    · split
                      · exact hP
                      · rename_i hm
                        split
                        · exact ih _ _ (st _ hm)
                        · split
                          · exact hP
                          · split
                            · exact ih _ _ (st _ hm)
                            · split
                              · exact ih _ _ (st _ hm)
                              · exact hP
          exact key _ _ _ RdQ.nil
        have hw := hok.w (rtp_whl _ _ _ (Decidable.not_not.mp hr))
        exact inv_add (inv_tp0 h) (hasD _ hw hF) h12
      · exact inv_tp0 h
theorem rdW_w {f : Nat → Int} {n : Nat} {P : Pic} (h : rdW f n = some P) : PicW P := by
  have key : ∀ (j : Nat) (P : Pic), rdR f j = some P → RdQ P := by
    intro j
    induction j with
    | zero => intro P hP; rw [← Option.some.inj hP]; exact RdQ.nil
    | succ j ih =>
      intro R hR
      rw [rdR_s] at hR
      cases hP : rdR f j with
      | none => rw [hP] at hR; cases hR
      | some P =>
        rw [hP] at hR
        obtain ⟨_, m, _, e⟩ := rdS_some (show rdS P (f j) = some R from hR)
        obtain ⟨m1, m2, m3, m4⟩ := mcm_out m
        rw [e]
        exact rst_q (ih P hP) (by omega) (by omega) (plc_neg.mp m4)
  unfold rdW at h
  split at h
  · rename_i R hR
    split at h
    · rename_i hl
      rw [← Option.some.inj h]
      exact (key n R hR).w hl
    · cases h
  · cases h
theorem kp_fromRow (v i n : Int) : Kp (opFromRow v i n) := fun S h => by
  unfold opFromRow
  split
  · exact h
  · split
    · exact h
    · rename_i h12
      split
      · exact h
      · exact h
      · split
        · exact h
        · split
          · exact h
          · split
            · exact h
            · rename_i P hP
              split
              · rename_i hF
                exact inv_add h (hasD _ (rdW_w hP) hF) h12
              · exact h
theorem kp_plait (m : Int) : Kp (opPlait m) := fun S h => by
  unfold opPlait
  split
  · exact h
  · rename_i hm
    split
    · exact h
    · rename_i h12
      simp only
      split
      · exact inv_tp0 h
      · rename_i hq
        split
        · rename_i hO
          have hall : ∀ k, k < S.2.1.length → wbad m.toNat (fw8 S.2.1) k = false := fun k hk => fnd_min (f := wbad m.toNat (fw8 S.2.1)) (n := S.2.1.length) (by omega)
          have hlt : ∀ k, k < S.2.1.length → wsT m.toNat S.2.1 k < 2 * m.toNat - 2 ∧ k < 7 := fun k hk => by
            have hb := hall k hk
            unfold wbad at hb
            rw [Bool.or_eq_false_iff] at hb
            have h7 := of_decide_eq_false hb.1
            cases hl : ltr m.toNat (fw8 S.2.1 k) with
            | none => rw [hl] at hb; simp at hb
            | some y =>
              refine ⟨?_, by omega⟩
              unfold wsT
              rw [hl]
              exact ltr_lt2 (by omega) hl
          have hn : S.2.1.length ≤ 7 := by
            rcases Nat.lt_or_ge 7 S.2.1.length with g | g
            · have := (hlt 7 g).2; omega
            · exact g
          exact inv_add (inv_tp0 h) (cls_nm (by omega) (by omega) hn (fun k hk => (hlt k hk).1) hO).2.2.2 h12
        · exact inv_tp0 h
theorem kp_of (xs : KS) (p w : Int) : Kp (opOf xs p w) := .id (fun S => by unfold opOf; split <;> rfl)
theorem kp_led (p k w : Int) : Kp (opLed p k w) := .id (fun S => by unfold opLed; split <;> rfl)
theorem kp_sum (xs : KS) (p e : Int) : Kp (opSum xs p e) := .id (fun S => by unfold opSum; split <;> rfl)
theorem kp_alike (xs : KS) (pq : Int) : Kp (opAlike xs pq) := .id (fun S => by unfold opAlike; split <;> rfl)
theorem kp_mirror (p : Int) : Kp (opMirror p) := fun S h => by
  unfold opMirror
  split
  · rename_i hp
    split
    · exact h
    · rename_i h12
      exact inv_add h (rbM_ok (h.ok _ (by omega))) h12
  · exact h
theorem kp_turn (p : Int) : Kp (opTurn p) := fun S h => by
  unfold opTurn
  split
  · rename_i hp
    split
    · exact h
    · rename_i h12
      exact inv_add h (rbT_ok (h.ok _ (by omega))) h12
  · exact h
theorem kp_join (pq : Int) : Kp (opJoin pq) := fun S h => by
  unfold opJoin
  split
  · rename_i hp
    split
    · exact h
    · rename_i h12
      split
      · exact h
      · rename_i h7
        have a := h.ok (pq / 100).toNat (by omega)
        have b := h.ok (pq % 100).toNat (by omega)
        refine inv_add h ?_ h12
        show PicOk (rbJ (pget S.1 (pq / 100).toNat) (pget S.1 (pq % 100).toNat))
        rw [rbJ_eq a b]
        exact jnd_ok a b (Nat.not_lt.mp h7)
  · exact h
theorem pget_set {ps : List Pic} {i j : Nat} {P : Pic} (hi : i < ps.length) : pget (ps.set i P) j = if j = i then P else pget ps j := by
  unfold pget
  rw [List.getD_eq_getElem?_getD, List.getElem?_set]
  by_cases e : i = j
  · subst e
    rw [if_pos rfl, if_pos hi, if_pos rfl]; rfl
  · rw [if_neg e, if_neg (fun hh => e hh.symm), ← List.getD_eq_getElem?_getD]
theorem inv_chg {S : St} {i c : Nat} (h : Inv S) (hi : i < S.1.length) : Inv (S.1.set i (chg (pget S.1 i) c), S.2) := by
  obtain ⟨i1, i2, i3, i4, i5, i6, i7, i8⟩ := h
  refine ⟨fun R hR => ?_, by show (S.1.set i _).length ≤ 12; rw [List.length_set]; exact i2, i3, i4, i5, i6, fun x hx => ?_, i8⟩
  · rcases List.mem_or_eq_of_mem_set hR with hR | hR
    · exact i1 R hR
    · rw [hR]; exact (i1 _ (pget_mem hi)).chg c
  · obtain ⟨j, e, ex, hj, he⟩ := i7 x hx
    refine ⟨j, e, ex, by show j < (S.1.set i _).length; rw [List.length_set]; exact hj, ?_⟩
    show e < (pget (S.1.set i _) j).2.length
    rw [pget_set hi]
    split
    · rename_i hji
      rw [chg_l2, ← hji]; exact he
    · exact he
theorem chAdd_mem {L : List Int} {u : Nat} {x y : Int} (h : y ∈ chAdd L u x) : y ∈ L ∨ y = x := by
  unfold chAdd at h
  rcases List.mem_append.mp h with h | h
  · split at h
    · exact Or.inl (List.mem_of_mem_take h)
    · exact Or.inl (List.mem_of_mem_take (List.mem_of_mem_drop h))
  · exact Or.inr (List.mem_singleton.mp h)
theorem chAdd_len {L : List Int} {u : Nat} {x : Int} (hu : u ≤ L.length) (hL : L.length ≤ 40) : (chAdd L u x).length = chLen u ∧ chLen u ≤ 40 := by
  unfold chAdd chLen
  rw [List.length_append, List.length_singleton]
  split
  · rw [List.length_take]; omega
  · rw [List.length_drop, List.length_take]; omega
theorem kp_change (p c : Int) : Kp (opChange p c) := fun S h => by
  unfold opChange
  split
  · rename_i hp
    obtain ⟨i, hi⟩ : ∃ i : Nat, p = i := ⟨p.toNat, by omega⟩
    have hil : i < S.1.length := by omega
    have hit : p.toNat = i := by omega
    have h1 := inv_chg (c := c.toNat) h hil
    obtain ⟨i1, i2, i3, i4, i5, i6, i7, i8, i9, i10⟩ := h1
    have hu : S.2.2.2.1.2 ≤ S.2.2.2.1.1.length := i8
    have hL : S.2.2.2.1.1.length ≤ 40 := i9
    obtain ⟨l1, l2⟩ := chAdd_len (x := 10 * p + c) hu hL
    have eq : pg S.1 p = pget S.1 i := by unfold pg; rw [hit]
    simp only
    rw [eq, hit]
    refine ⟨i1, i2, i3, i4, i5, i6, fun x hx => ?_, by show chLen _ ≤ (chAdd _ _ _).length; omega, by show (chAdd _ _ _).length ≤ 40; omega, i10⟩
    rcases chAdd_mem hx with hx | hx
    · exact i7 x hx
    · refine ⟨i, c.toNat, by rw [hx]; omega, by show i < (S.1.set i _).length; rw [List.length_set]; exact hil, ?_⟩
      show c.toNat < (pget (S.1.set i _) i).2.length
      rw [pget_set hil, if_pos rfl, chg_l2, ← eq]
      omega
  · exact h
theorem kp_pulls (xs : KS) (p w : Int) : Kp (opPulls xs p w) := .id (fun S => by unfold opPulls; split <;> rfl)
theorem kp_moves (p w : Int) : Kp (opMoves p w) := .id (fun S => by unfold opMoves; split <;> rfl)
theorem kp_simpler (p w : Int) : Kp (opSimpler p w) := .id (fun S => by unfold opSimpler; split <;> rfl)
theorem smpL_ok : ∀ (u : Nat) {P : Pic}, PicOk P → PicOk (smpL u P).2
  | 0, P, h => h
  | u + 1, P, h => by
    unfold smpL
    split
    · exact h
    · rename_i hg
      exact smpL_ok u (wot_ok h hg)
theorem kp_simplify (p : Int) : Kp (opSimplify p) := fun S h => by
  unfold opSimplify
  split
  · rename_i hp
    obtain ⟨i1, i2, i3, i4, i5, i6, i7, i8, i9, i10⟩ := h
    have hil : p.toNat < S.1.length := by omega
    refine ⟨fun R hR => ?_, by show (S.1.set _ _).length ≤ 12; rw [List.length_set]; exact i2, i3, i4, i5, i6, fun x hx => absurd hx List.not_mem_nil, Nat.le_refl _, by simp, i10⟩
    rcases List.mem_or_eq_of_mem_set hR with hR | hR
    · exact i1 R hR
    · rw [hR]; exact smpL_ok 7 (i1 _ (pget_mem hil))
  · exact h
theorem kp_parted (p w : Int) : Kp (opParted p w) := .id (fun S => by unfold opParted; split <;> rfl)
theorem kp_hidden (xs : KS) (p b w : Int) : Kp (opHidden xs p b w) := .id (fun S => by unfold opHidden; split <;> rfl)
theorem kp_lots (xs : KS) (ml w : Int) : Kp (opLots xs ml w) := .id (fun S => by unfold opLots; split <;> split <;> rfl)
theorem kp_law : Kp opLaw := fun S h => by
  unfold opLaw
  simp only
  split
  · exact inv_tp0 h
  · rename_i hw
    obtain ⟨i1, i2, i3, i4, i5, i6, i7, i8, i9, i10, i11, i12, i13, i14, i15⟩ := h
    refine ⟨i1, i2, fun b hb => absurd hb List.not_mem_nil, by simp, i3, i4, i7, i8, i9, i10, i11, i12, i13, i14, Or.inr ?_⟩
    show (wor (fw8 S.2.1) S.2.1.length e0).2.2 = false
    cases hc : (wor (fw8 S.2.1) S.2.1.length e0).2.2 with
    | false => rfl
    | true => exact absurd hc hw
theorem kp_shake (xs : KS) (nb sm seed tn : Int) : Kp (opShake xs nb sm seed tn) := .id (fun S => by unfold opShake; split <;> rfl)
theorem kp_least (xs : KS) (box sm seed v : Int) : Kp (opLeast xs box sm seed v) := .id (fun S => by unfold opLeast; split <;> rfl)
theorem inv_chP {S : St} {x : Int} {k : Nat} {u : Nat} (h : Inv S) (hx : x = S.2.2.2.1.1.getD k 0) (hk : k < S.2.2.2.1.1.length) (hu : u ≤ S.2.2.2.1.1.length) : Inv (chP S.1 x, S.2.1, S.2.2.1, (S.2.2.2.1.1, u), S.2.2.2.2) := by
  obtain ⟨i, c, ex, hi, hc⟩ := h.2.2.2.2.2.2.1 _ (getD_memI (l := S.2.2.2.1.1) hk)
  rw [← hx] at ex
  have e1 : (x / 10).toNat = i ∨ ¬ c < 10 := by omega
  have h7 := (h.ok i hi).1
  have e1 : (x / 10).toNat = i := by omega
  have e2 : (x % 10).toNat = c := by omega
  have h1 := inv_chg (c := c) h hi
  obtain ⟨i1, i2, i3, i4, i5, i6, i7, i8, i9, i10⟩ := h1
  unfold chP pg
  rw [e1, e2]
  exact ⟨i1, i2, i3, i4, i5, i6, i7, hu, i9, i10⟩
theorem kp_undo : Kp opUndo := fun S h => by
  unfold opUndo
  have hu := h.2.2.2.2.2.2.2.1
  split
  · exact h
  · rename_i h0
    exact inv_chP h rfl (by omega) (by omega)
theorem kp_redo : Kp opRedo := fun S h => by
  unfold opRedo
  have hu := h.2.2.2.2.2.2.2.1
  split
  · exact h
  · rename_i h0
    exact inv_chP h rfl (by omega) (by omega)
theorem kp_body (k : Int) : Kp (opBody k) := fun S h => by
  unfold opBody
  split
  · rename_i hk
    split
    · rename_i hl
      obtain ⟨i1, i2, i3, i4, i5, i6, i7, i8, i9, i10, i11, i12, i13, i14, i15⟩ := h
      refine ⟨i1, i2, i3, i4, i5, i6, i7, i8, i9, fun j hj => ?_, by show (S.2.2.2.2.1.1 ++ [k]).length ≤ 50; rw [List.length_append, List.length_singleton]; omega, i12, fun i b hb => ?_, i14, i15⟩
      · change j < (S.2.2.2.2.1.1 ++ [k]).length at hj
        show 0 ≤ (S.2.2.2.2.1.1 ++ [k]).getD j 0 ∧ (S.2.2.2.2.1.1 ++ [k]).getD j 0 < 8
        rw [List.length_append, List.length_singleton] at hj
        by_cases e : j < S.2.2.2.2.1.1.length
        · rw [List.getD_eq_getElem?_getD, List.getElem?_append_left e, ← List.getD_eq_getElem?_getD]
          exact i10 j e
        · rw [show j = S.2.2.2.2.1.1.length by omega, List.getD_eq_getElem?_getD, List.getElem?_append_right (Nat.le_refl _), Nat.sub_self]
          exact hk
      · have := i13 i b hb
        show b < (S.2.2.2.2.1.1 ++ [k]).length
        rw [List.length_append]; omega
    · exact h
  · exact h
theorem kp_act (b act x : Int) : Kp (opAct b act x) := fun S h => by
  obtain ⟨i1, i2, i3, i4, i5, i6, i7, i8, i9, i10, i11, i12, i13, i14, i15⟩ := h
  exact ⟨i1, i2, i3, i4, i5, i6, i7, i8, i9, i10, i11, i12, i13, i14, i15⟩
theorem kp_trace (i : Int) : Kp (opTrace i) := .id (fun S => rfl)
theorem inv_sh {S : St} {v : Int} {x : Shf} (h : Inv S) (hl : ∀ b, x = some (.inl b) → b < S.2.2.2.2.1.1.length) (hr : ∀ s l, x = some (.inr (s, l)) → s < 5 ∧ l.length ≤ 60) : Inv (setSh S v x) := by
  obtain ⟨i1, i2, i3, i4, i5, i6, i7, i8, i9, i10, i11, i12, i13, i14, i15⟩ := h
  have g : ∀ i y, (S.2.2.2.2.2.set v.toNat x).getD i none = some y → some y = x ∨ S.2.2.2.2.2.getD i none = some y := fun i y hy => by
    rw [List.getD_eq_getElem?_getD, List.getElem?_set] at hy
    split at hy
    · split at hy
      · exact Or.inl hy.symm
      · cases hy
    · rw [← List.getD_eq_getElem?_getD] at hy
      exact Or.inr hy
  refine ⟨i1, i2, i3, i4, i5, i6, i7, i8, i9, i10, i11, by show (S.2.2.2.2.2.set _ _).length = 6; rw [List.length_set]; exact i12, fun i b hb => ?_, fun i s l hs => ?_, i15⟩
  · rcases g i _ hb with e | e
    · exact hl b e.symm
    · exact i13 i b e
  · rcases g i _ hs with e | e
    · exact hr s l e.symm
    · exact i14 i s l e
theorem kp_keep (v b : Int) : Kp (opKeep v b) := fun S h => by
  unfold opKeep
  split
  · rename_i hc
    refine inv_sh h (fun x hx => ?_) (fun s l hx => ?_)
    · unfold shLie at hx
      split at hx
      · cases hx
      · have := Option.some.inj hx
        have := Sum.inl.inj this
        omega
    · unfold shLie at hx
      split at hx
      · cases hx
      · cases (Option.some.inj hx)
  · exact h
theorem kp_row (v s n : Int) : Kp (opRow v s n) := fun S h => by
  unfold opRow
  split
  · rename_i hc
    split
    · exact h
    · refine inv_sh h (fun x hx => by cases (Option.some.inj hx)) (fun s' l hx => ?_)
      have hx := Prod.mk.inj (Sum.inr.inj (Option.some.inj hx))
      rw [← hx.1, ← hx.2, List.length_replicate]
      omega
  · exact h
theorem sget_g {S : St} {v : Int} : sget S.2.2.2.2.2 v = S.2.2.2.2.2.getD v.toNat none := rfl
theorem kp_put (v i x : Int) : Kp (opPut v i x) := fun S h => by
  unfold opPut
  split
  · refine inv_sh h (fun b hb => ?_) (fun s l hs => ?_)
    · split at hb
      · cases (Option.some.inj hb)
      · exact h.2.2.2.2.2.2.2.2.2.2.2.2.1 v.toNat b hb
    · split at hs
      · rename_i s' l' hg
        have e := Prod.mk.inj (Sum.inr.inj (Option.some.inj hs))
        have := h.2.2.2.2.2.2.2.2.2.2.2.2.2.1 v.toNat s' l' hg
        rw [← e.1, ← e.2, List.length_set]
        exact this
      · exact h.2.2.2.2.2.2.2.2.2.2.2.2.2.1 v.toNat s l hs
  · exact h
theorem kp_element (v i : Int) : Kp (opElement v i) := .id (fun S => rfl)
theorem kp_shift (v i e j n : Int) : Kp (opShift v i e j n) := fun S h => by
  unfold opShift
  split
  · exact h
  · split
    · exact h
    · exact h
    · exact h
    · exact h
    · rename_i s l t r hs ht
      split
      · exact h
      · split
        · exact h
        · refine inv_sh h (fun x hx => by cases (Option.some.inj hx)) (fun s' l' hx => ?_)
          have hx := Prod.mk.inj (Sum.inr.inj (Option.some.inj hx))
          have := h.2.2.2.2.2.2.2.2.2.2.2.2.2.1 e.toNat t r ht
          rw [← hx.1, ← hx.2]
          unfold lay
          rw [List.length_map, List.length_range]
          exact this
theorem kp_taken (xs : KS) (v k : Int) : Kp (opTaken xs v k) := .id (fun S => rfl)
theorem kp_count (w : Int) : Kp (opCount w) := .id (fun S => rfl)
/-- the state of new objects -/
def S00 : St := ([], [], [], ([], 0), ([], []), List.replicate 6 none)
theorem inv_00 : Inv S00 := by
  refine ⟨fun P hP => absurd hP List.not_mem_nil, by decide, fun b hb => absurd hb List.not_mem_nil, by decide, fun b hb => absurd hb List.not_mem_nil, by decide, fun b hb => absurd hb List.not_mem_nil, by decide, by decide, fun k hk => absurd hk (Nat.not_lt_zero k), by decide, rfl, fun i b hb => ?_, fun i s l hs => ?_, Or.inl rfl⟩
  · have : (List.replicate 6 (none : Shf)).getD i none = none := by
      rw [List.getD_eq_getElem?_getD, List.getElem?_replicate]
      split <;> rfl
    rw [show S00.2.2.2.2.2 = List.replicate 6 none from rfl, this] at hb
    cases hb
  · have : (List.replicate 6 (none : Shf)).getD i none = none := by
      rw [List.getD_eq_getElem?_getD, List.getElem?_replicate]
      split <;> rfl
    rw [show S00.2.2.2.2.2 = List.replicate 6 none from rfl, this] at hs
    cases hs
