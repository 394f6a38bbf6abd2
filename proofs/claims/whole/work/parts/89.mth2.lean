/-! PICTURES BUILT ANEW: a canonical one comes out as it was -/
theorem pic_ext {P R : Pic} (h1 : P.1.length = R.1.length) (h2 : P.2.length = R.2.length) (hp : ∀ k, k < P.1.length → pcx P k = pcx R k ∧ pov P k = pov R k) (hs : ∀ c, c < P.2.length → psg P c = psg R c) : P = R := by
  obtain ⟨V, S⟩ := P
  obtain ⟨W, T⟩ := R
  simp only at h1 h2 hp hs
  have e1 : V = W := List.ext_getElem h1 (fun k a b => by
    obtain ⟨x, y⟩ := hp k a
    unfold pcx at x
    unfold pov at y
    rw [List.getD_eq_getElem?_getD, List.getD_eq_getElem?_getD, List.getElem?_eq_getElem a, List.getElem?_eq_getElem b] at x y
    exact Prod.ext x y)
  have e2 : S = T := List.ext_getElem h2 (fun k a b => by
    have x := hs k a
    unfold psg at x
    rw [List.getD_eq_getElem?_getD, List.getD_eq_getElem?_getD, List.getElem?_eq_getElem a, List.getElem?_eq_getElem b] at x
    exact x)
  rw [e1, e2]
theorem bldF_nub : ∀ (l : VL) (B : Bld), (bldF B l).1 = nubF B.1 (l.map (fun q => q.1))
  | [], B => rfl
  | q :: l, B => by
    show (bldF (bst B q.1 q.2.1 q.2.2) l).1 = nubF (if q.1 ∈ B.1 then B.1 else B.1 ++ [q.1]) (l.map (fun q => q.1))
    rw [bldF_nub l]
    congr 1
    unfold bst
    split <;> rfl
theorem bldF_sg (f : Nat → Bool) : ∀ (l : VL) (B : Bld), (∀ q ∈ l, q.2.2 = f q.1) → B.2.2 = B.1.map f → (bldF B l).2.2 = (bldF B l).1.map f
  | [], B, _, hB => hB
  | q :: l, B, hl, hB => by
    show (bldF (bst B q.1 q.2.1 q.2.2) l).2.2 = (bldF (bst B q.1 q.2.1 q.2.2) l).1.map f
    refine bldF_sg f l _ (fun r hr => hl r (List.mem_cons_of_mem _ hr)) ?_
    unfold bst
    split
    · exact hB
    · show B.2.2 ++ [q.2.2] = (B.1 ++ [q.1]).map f
      rw [List.map_append, hB, hl q (List.mem_cons_self)]; rfl
theorem idxOf_range : ∀ n x, x < n → (List.range n).idxOf x = x
  | 0, x, h => absurd h (Nat.not_lt_zero x)
  | n + 1, x, h => by
    rw [List.range_succ, List.idxOf_append]
    by_cases e : x < n
    · rw [if_pos (List.mem_range.mpr e)]; exact idxOf_range n x e
    · have : x = n := by omega
      subst this
      rw [if_neg (by simp)]
      simp
/-- the build of visits in canonical order -/
theorem bld_canon {l : VL} {n : Nat} (f : Nat → Bool) (hn : nubF [] (l.map (fun q => q.1)) = List.range n) (hf : ∀ q ∈ l, q.2.2 = f q.1) : (bldF bs0 l).2 = (l.map (fun q => (q.1, q.2.1)), (List.range n).map f) := by
  have hB := bldF_nub l bs0
  rw [show bs0.1 = [] from rfl, hn] at hB
  have hS := bldF_sg f l bs0 hf rfl
  have hok := bld_ok (l := l) l.length (Nat.le_refl _)
  rw [List.take_length] at hok
  obtain ⟨o1, o2, o3⟩ := hok
  rw [hB] at hS o2 o3
  refine pic_ext (by rw [o1, List.length_map]) (by rw [hS]) (fun k hk => ?_) (fun c hc => ?_)
  · rw [o1] at hk
    obtain ⟨a, b, c⟩ := o3 k hk
    rw [b, c, idxOf_range _ _ (List.mem_range.mp a)]
    unfold pcx pov
    rw [vq_get hk, List.getD_eq_getElem?_getD, List.getElem?_eq_getElem (by rw [List.length_map]; exact hk), List.getElem_map]
    exact ⟨rfl, rfl⟩
  · unfold psg
    rw [hS]
/-- all crossings changed -/
def chA (P : Pic) : Nat → Pic
  | 0 => P
  | c + 1 => chg (chA P c) c
theorem chA_ok {P : Pic} (h : PicOk P) : ∀ c, PicOk (chA P c)
  | 0 => h
  | c + 1 => (chA_ok h c).chg c
theorem chA_l1 (P : Pic) : ∀ c, (chA P c).1.length = P.1.length
  | 0 => rfl
  | c + 1 => by unfold chA; rw [chg_l1, chA_l1 P c]
theorem chA_l2 (P : Pic) : ∀ c, (chA P c).2.length = P.2.length
  | 0 => rfl
  | c + 1 => by unfold chA; rw [chg_l2, chA_l2 P c]
theorem chA_pc (P : Pic) : ∀ c k, pcx (chA P c) k = pcx P k
  | 0, k => rfl
  | c + 1, k => by unfold chA; rw [pcx_chg, chA_pc P c k]
theorem ltd (e c : Nat) : (decide (e < c) != decide (e = c)) = decide (e < c + 1) := by
  by_cases h1 : e < c
  · rw [decide_eq_true h1, decide_eq_false (by omega), decide_eq_true (by omega)]; rfl
  · by_cases h2 : e = c
    · rw [decide_eq_false h1, decide_eq_true h2, decide_eq_true (by omega)]; rfl
    · rw [decide_eq_false h1, decide_eq_false h2, decide_eq_false (by omega)]; rfl
theorem bxa (a b c : Bool) : ((a != b) != c) = (a != (b != c)) := by cases a <;> cases b <;> cases c <;> rfl
theorem chA_pv (P : Pic) : ∀ c k, k < P.1.length → pov (chA P c) k = (pov P k != decide (pcx P k < c))
  | 0, k, _ => by unfold chA; simp
  | c + 1, k, hk => by
    unfold chA
    rw [pov_chg _ _ _ (by rw [chA_l1]; exact hk), chA_pv P c k hk, chA_pc, bxa, ltd]
theorem chA_sg (P : Pic) : ∀ c, c ≤ P.2.length → ∀ e, psg (chA P c) e = (psg P e != decide (e < c))
  | 0, _, e => by unfold chA; simp
  | c + 1, hc, e => by
    unfold chA
    rw [psg_chg _ _ _ (by rw [chA_l2]; omega), chA_sg P c (by omega), bxa, ltd]
theorem map_pcx (P : Pic) : P.1.map Prod.fst = (List.range P.1.length).map (pcx P) := by
  refine List.ext_getElem (by simp) (fun k a b => ?_)
  have hk : k < P.1.length := by simpa using a
  rw [List.getElem_map, List.getElem_map, List.getElem_range]
  unfold pcx
  rw [List.getD_eq_getElem?_getD, List.getElem?_eq_getElem hk]; rfl
theorem rbM_eq {P : Pic} (h : PicOk P) : rbM P = chA P P.2.length := by
  have e : nubF [] ((vlm P P.1.length).map (fun q => q.1)) = List.range P.2.length := by
    rw [← h.2.2.2.1]
    rw [map_pcx P, show (vlm P P.1.length).map (fun q => q.1) = (List.range P.1.length).map (pcx P) from by unfold vlm; rw [List.map_map]; rfl]
  unfold rbM
  rw [bld_canon (fun c => !(psg P c)) e (fun q hq => by
    obtain ⟨k, _, rfl⟩ := List.mem_map.mp hq; rfl)]
  refine pic_ext (by rw [chA_l1]; unfold vlm; simp) (by rw [chA_l2]; simp) (fun k hk => ?_) (fun c hc => ?_)
  · have hk : k < P.1.length := by unfold vlm at hk; simpa using hk
    rw [chA_pc, chA_pv _ _ _ hk, decide_eq_true (h.lt hk)]
    have g : ((vlm P P.1.length).map (fun q => (q.1, q.2.1))).getD k (0, false) = (pcx P k, !(pov P k)) := by
      rw [List.getD_eq_getElem?_getD, List.getElem?_eq_getElem (by unfold vlm; simpa using hk)]
      unfold vlm
      simp
    refine ⟨?_, ?_⟩
    · show (((vlm P P.1.length).map (fun q => (q.1, q.2.1))).getD k (0, false)).1 = _
      rw [g]
    · show (((vlm P P.1.length).map (fun q => (q.1, q.2.1))).getD k (0, false)).2 = _
      rw [g]; cases pov P k <;> rfl
  · have hc : c < P.2.length := by simpa using hc
    rw [chA_sg _ _ (Nat.le_refl _), decide_eq_true hc]
    show ((List.range P.2.length).map (fun c => !(psg P c))).getD c false = _
    rw [List.getD_eq_getElem?_getD, List.getElem?_eq_getElem (by simpa using hc)]
    simp
theorem rbM_ok {P : Pic} (h : PicOk P) : PicOk (rbM P) := by rw [rbM_eq h]; exact chA_ok h _
theorem m_mirror {xs : KS} {p : Int} : MOk xs 197 [(0, 19, 0, 101), (1, 0, 0, p)] (opMirror p) := by
  intro d S G I Q hS hI h
  have no : ∀ r J, mscr I J → opMirror p S = (r, S) → Q r G J := fun r J hm e => by rw [e] at h; exact h G J (hS.ms hm) hm.lo
  refine b_M_mirror_0 (t_M_isPicture hS.1.1 hS.1.2.1 ⟨fun h1 => ?_, fun h1 => no _ _ (mscr.rf I) (by unfold opMirror; rw [if_neg (fun hh => of_decide_eq_false (bi0 h1) hh)])⟩)
  have hp : 0 ≤ p ∧ p < S.1.length := of_decide_eq_true (bi1 h1)
  have h12 := hS.1.2.1
  obtain ⟨i, rfl⟩ : ∃ i : Nat, p = i := ⟨p.toNat, by omega⟩
  have hi : i < S.1.length := by omega
  have hok := hI.ok i hi
  have hn7 := hok.1
  unfold opMirror at no h
  rw [if_pos hp, show pg S.1 (i : Int) = pget S.1 i from rfl] at no h
  rw [hS.1.1]
  refine ⟨fun h2 => t_M_takesUp hS.1 hi (fun J0 hP0 hf0 => ?_), fun h2 => no _ _ (mscr.rf I) (by rw [if_pos (by omega)])⟩
  rw [if_neg (by omega), rbM_eq hok] at h
  generalize hPP : pget S.1 i = P at *
  refine loop_up (n := P.2.length) (W := fun c => ∀ J : KI, MHd (chA P c) J → hfr I J → kWP xs true (d + 80) 0 0 197 29 [(0, 19, 0, 101), (2, 0, 0, (c : Int))] [] G J Q) ?_ ?_ (Nat.zero_le _) J0 hP0 hf0
  · intro J hP hf
    refine b_M_mirror_29 ?_
    rw [hP.2.2.1, chA_l2]
    refine ⟨fun _ => t_M_keeps (hS.1.ms hf.ms) (by omega) hP (fun J2 hp2 hf2 => ?_), fun hh => by omega⟩
    have hr := hS.ms hf.ms
    unfold addP at h
    exact h G J2 ⟨hp2, hr.2.1.fr (fun a k hk => hf2 _ _ (by omega) (by omega)), hr.2.2.1.fr (fun a k hk => hf2 _ _ (by omega) (by omega)), hr.2.2.2.1.fr (fun a k hk => hf2 _ _ (by omega) (by omega)), hr.2.2.2.2.1.fr (fun a k hk => hf2 _ _ (by omega) (by omega)), hr.2.2.2.2.2.fr (fun a k _ _ => hf2 _ _ (by omega) (by omega))⟩ (fun a k hk => by rw [hf2 _ _ (by omega) (by omega), hf _ _ (by omega) (by omega)])
  · intro c hc ih J hP hf
    refine b_M_mirror_29 ?_
    rw [hP.2.2.1, chA_l2, w32_inc (by omega)]
    exact ⟨fun hh => by omega, fun _ => t_M_changesAt hP (by rw [chA_l2]; exact hc) (fun J1 hP1 hf1 => ih J1 hP1 (fun a k n1 n2 => by rw [hf1 _ _ (by omega)]; exact hf a k n1 n2))⟩
