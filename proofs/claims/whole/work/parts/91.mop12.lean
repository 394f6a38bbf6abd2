/-! THE MODEL'S CALLS: join -/
/-- two pictures, one behind the other -/
def jnd (P R : Pic) : Pic := (P.1 ++ R.1.map (fun q => (P.2.length + q.1, q.2)), P.2 ++ R.2)
theorem jnd_v {P R : Pic} (k : Nat) : pcx (jnd P R) (P.1.length + k) = (if k < R.1.length then P.2.length + pcx R k else 0) ∧ pov (jnd P R) (P.1.length + k) = pov R k := by
  unfold jnd pcx pov
  simp only [List.getD_eq_getElem?_getD]
  rw [List.getElem?_append_right (by omega), show P.1.length + k - P.1.length = k by omega, List.getElem?_map]
  by_cases h : k < R.1.length
  · rw [List.getElem?_eq_getElem h, if_pos h]; exact ⟨rfl, rfl⟩
  · rw [List.getElem?_eq_none (by omega), if_neg h]; exact ⟨rfl, rfl⟩
theorem jnd_u {P R : Pic} {k : Nat} (h : k < P.1.length) : pcx (jnd P R) k = pcx P k ∧ pov (jnd P R) k = pov P k := by
  unfold jnd pcx pov
  simp only [List.getD_eq_getElem?_getD]
  rw [List.getElem?_append_left h]
  exact ⟨rfl, rfl⟩
theorem jnd_s {P R : Pic} (c : Nat) : psg (jnd P R) (P.2.length + c) = psg R c := by
  unfold jnd psg
  simp only [List.getD_eq_getElem?_getD]
  rw [List.getElem?_append_right (by omega), show P.2.length + c - P.2.length = c by omega]
theorem jnd_t {P R : Pic} {c : Nat} (h : c < P.2.length) : psg (jnd P R) c = psg P c := by
  unfold jnd psg
  simp only [List.getD_eq_getElem?_getD]
  rw [List.getElem?_append_left h]
theorem jnd_l1 (P R : Pic) : (jnd P R).1.length = P.1.length + R.1.length := by unfold jnd; simp
theorem jnd_l2 (P R : Pic) : (jnd P R).2.length = P.2.length + R.2.length := by unfold jnd; simp
theorem idxOf_map {r : Nat → Nat} : ∀ (D : List Nat) (x : Nat), (∀ y ∈ D, r y = r x → y = x) → (D.map r).idxOf (r x) = D.idxOf x
  | [], x, _ => rfl
  | y :: D, x, h => by
    rw [List.map_cons, List.idxOf_cons, List.idxOf_cons]
    by_cases e : y = x
    · rw [e]; simp
    · have hne : r y ≠ r x := fun hh => e (h y (List.mem_cons_self) hh)
      rw [show (r y == r x) = false from by simpa using hne, show (y == x) = false from by simpa using e]
      simp only [cond_false]
      rw [idxOf_map D x (fun z hz => h z (List.mem_cons_of_mem _ hz))]
theorem bld_ren {r : Nat → Nat} : ∀ (l : VL) (B : Bld), (∀ a b, (a ∈ B.1 ∨ a ∈ l.map (fun q => q.1)) → (b ∈ B.1 ∨ b ∈ l.map (fun q => q.1)) → r a = r b → a = b) →
    bldF (B.1.map r, B.2) (l.map (fun q => (r q.1, q.2))) = ((bldF B l).1.map r, (bldF B l).2)
  | [], B, _ => rfl
  | q :: l, B, h => by
    show bldF (bst (B.1.map r, B.2) (r q.1) q.2.1 q.2.2) (l.map (fun q => (r q.1, q.2))) = ((bldF (bst B q.1 q.2.1 q.2.2) l).1.map r, (bldF (bst B q.1 q.2.1 q.2.2) l).2)
    have hq : ∀ y ∈ B.1, r y = r q.1 → y = q.1 := fun y hy => h y q.1 (Or.inl hy) (Or.inr (by simp))
    have e : bst (B.1.map r, B.2) (r q.1) q.2.1 q.2.2 = ((bst B q.1 q.2.1 q.2.2).1.map r, (bst B q.1 q.2.1 q.2.2).2) := by
      unfold bst
      by_cases hin : q.1 ∈ B.1
      · rw [if_pos hin, if_pos (List.mem_map.mpr ⟨_, hin, rfl⟩)]
        simp only
        rw [idxOf_map _ _ hq]
      · rw [if_neg hin, if_neg (fun hh => by
          obtain ⟨y, hy, e⟩ := List.mem_map.mp hh
          exact hin (hq y hy e ▸ hy))]
        simp
    rw [e]
    have hsub : ∀ a, a ∈ (bst B q.1 q.2.1 q.2.2).1 → a ∈ B.1 ∨ a = q.1 := fun a ha => by
      unfold bst at ha
      split at ha
      · exact Or.inl ha
      · rcases List.mem_append.mp ha with g | g
        · exact Or.inl g
        · exact Or.inr (List.mem_singleton.mp g)
    have up : ∀ a, (a ∈ (bst B q.1 q.2.1 q.2.2).1 ∨ a ∈ l.map (fun q => q.1)) → (a ∈ B.1 ∨ a ∈ (q :: l).map (fun q => q.1)) := fun a ha => by
      rcases ha with g | g
      · rcases hsub a g with g | g
        · exact Or.inl g
        · exact Or.inr (by rw [g]; simp)
      · exact Or.inr (by rw [List.map_cons]; exact List.mem_cons_of_mem _ g)
    exact bld_ren l _ (fun a b ha hb => h a b (up a ha) (up b hb))
theorem nubF_app : ∀ (a D b : List Nat), nubF D (a ++ b) = nubF (nubF D a) b
  | [], D, b => rfl
  | x :: a, D, b => nubF_app a _ b
theorem nubF_sh (n : Nat) : ∀ (l D : List Nat), nubF (List.range n ++ D.map (fun x => n + x)) (l.map (fun x => n + x)) = List.range n ++ (nubF D l).map (fun x => n + x)
  | [], D => rfl
  | x :: l, D => by
    show nubF (if n + x ∈ List.range n ++ D.map (fun x => n + x) then List.range n ++ D.map (fun x => n + x) else (List.range n ++ D.map (fun x => n + x)) ++ [n + x]) (l.map (fun x => n + x)) = List.range n ++ (nubF (if x ∈ D then D else D ++ [x]) l).map (fun x => n + x)
    have hm : n + x ∈ List.range n ++ D.map (fun x => n + x) ↔ x ∈ D := by
      rw [List.mem_append, List.mem_range, List.mem_map]
      refine ⟨fun g => ?_, fun g => Or.inr ⟨x, g, rfl⟩⟩
      rcases g with g | ⟨y, hy, e⟩
      · omega
      · have : y = x := by omega
        rw [← this]; exact hy
    by_cases h : x ∈ D
    · rw [if_pos h, if_pos (hm.mpr h)]; exact nubF_sh n l D
    · rw [if_neg h, if_neg (fun hh => h (hm.mp hh)), List.append_assoc, show D.map (fun x => n + x) ++ [n + x] = (D ++ [x]).map (fun x => n + x) by simp]
      exact nubF_sh n l (D ++ [x])
theorem rbJ_eq {P R : Pic} (hp : PicOk P) (hr : PicOk R) : rbJ P R = jnd P R := by
  have hpn := hp.1
  -- names from 7 on become names from n on
  have e1 : vla P 0 P.1.length ++ vla R 7 R.1.length = (vla P 0 P.1.length ++ vla R P.2.length R.1.length).map (fun q => ((if q.1 < P.2.length then q.1 else q.1 - P.2.length + 7), q.2)) := by
    unfold vla
    rw [List.map_append, List.map_map, List.map_map]
    congr 1
    · refine List.map_congr_left (fun k hk => ?_)
      have := hp.lt (List.mem_range.mp hk)
      show (0 + pcx P k, pov P k, psg P (pcx P k)) = ((if 0 + pcx P k < P.2.length then 0 + pcx P k else 0 + pcx P k - P.2.length + 7), pov P k, psg P (pcx P k))
      rw [if_pos (by omega)]
    · refine List.map_congr_left (fun k hk => ?_)
      show (7 + pcx R k, pov R k, psg R (pcx R k)) = ((if P.2.length + pcx R k < P.2.length then P.2.length + pcx R k else P.2.length + pcx R k - P.2.length + 7), pov R k, psg R (pcx R k))
      rw [if_neg (by omega), show P.2.length + pcx R k - P.2.length + 7 = 7 + pcx R k by omega]
  have e2 := bld_ren (r := fun x => if x < P.2.length then x else x - P.2.length + 7) (vla P 0 P.1.length ++ vla R P.2.length R.1.length) bs0 (fun a b _ _ hab => by
    by_cases h1 : a < P.2.length <;> by_cases h2 : b < P.2.length <;> simp only [h1, h2, if_true, if_false] at hab <;> omega)
  unfold rbJ
  rw [e1, show bs0 = (bs0.1.map (fun x => if x < P.2.length then x else x - P.2.length + 7), bs0.2) from rfl, e2]
  simp only
  have hn : nubF [] ((vla P 0 P.1.length ++ vla R P.2.length R.1.length).map (fun q => q.1)) = List.range (P.2.length + R.2.length) := by
    have w1 : (vla P 0 P.1.length).map (fun q => q.1) = P.1.map Prod.fst := by
      rw [map_pcx]; unfold vla; rw [List.map_map]
      exact List.map_congr_left (fun k _ => Nat.zero_add _)
    have w2 : (vla R P.2.length R.1.length).map (fun q => q.1) = (R.1.map Prod.fst).map (fun x => P.2.length + x) := by
      rw [map_pcx]; unfold vla; rw [List.map_map, List.map_map]; rfl
    rw [List.map_append, w1, w2, nubF_app, hp.2.2.2.1]
    have := nubF_sh P.2.length (R.1.map Prod.fst) []
    rw [List.map_nil, List.append_nil] at this
    rw [this, hr.2.2.2.1, List.range_add]
  rw [bld_canon (fun c => psg (jnd P R) c) hn (fun q hq => by
    rcases List.mem_append.mp hq with g | g
    · obtain ⟨k, hk, rfl⟩ := List.mem_map.mp g
      show psg P (pcx P k) = psg (jnd P R) (0 + pcx P k)
      rw [Nat.zero_add, jnd_t (hp.lt (List.mem_range.mp hk))]
    · obtain ⟨k, hk, rfl⟩ := List.mem_map.mp g
      show psg R (pcx R k) = psg (jnd P R) (P.2.length + pcx R k)
      rw [jnd_s])]
  refine Prod.ext ?_ ?_
  · show (vla P 0 P.1.length ++ vla R P.2.length R.1.length).map (fun q => (q.1, q.2.1)) = P.1 ++ R.1.map (fun q => (P.2.length + q.1, q.2))
    rw [List.map_append]
    congr 1
    · unfold vla
      rw [List.map_map]
      refine List.ext_getElem (by simp) (fun k a b => ?_)
      rw [List.getElem_map, List.getElem_range]
      show (0 + pcx P k, pov P k) = P.1[k]
      unfold pcx pov
      rw [List.getD_eq_getElem?_getD, List.getElem?_eq_getElem b, Nat.zero_add]; rfl
    · unfold vla
      rw [List.map_map]
      refine List.ext_getElem (by simp) (fun k a b => ?_)
      have hk : k < R.1.length := by simpa using b
      rw [List.getElem_map, List.getElem_range, List.getElem_map]
      show (P.2.length + pcx R k, pov R k) = (P.2.length + R.1[k].1, R.1[k].2)
      unfold pcx pov
      rw [List.getD_eq_getElem?_getD, List.getElem?_eq_getElem hk]; rfl
  · refine List.ext_getElem (by rw [jnd_l2]; simp) (fun k a b => ?_)
    show ((List.range (P.2.length + R.2.length)).map (fun c => psg (jnd P R) c))[k] = _
    rw [List.getElem_map, List.getElem_range]
    unfold psg
    rw [List.getD_eq_getElem?_getD, List.getElem?_eq_getElem b]; rfl
