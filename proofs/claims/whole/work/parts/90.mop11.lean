/-! THE MODEL'S CALLS: turn -/
theorem nubF_mem {x : Nat} : ∀ (l D : List Nat), x ∈ nubF D l ↔ x ∈ D ∨ x ∈ l
  | [], D => by unfold nubF; simp
  | y :: l, D => by
    unfold nubF
    rw [nubF_mem l]
    by_cases h : y ∈ D
    · rw [if_pos h]
      refine ⟨fun g => g.elim Or.inl (fun g => Or.inr (List.mem_cons_of_mem _ g)), fun g => g.elim Or.inl (fun g => ?_)⟩
      rcases List.mem_cons.mp g with e | e
      · rw [e]; exact Or.inl h
      · exact Or.inr e
    · rw [if_neg h]
      rw [List.mem_append, List.mem_singleton, List.mem_cons]
      exact or_assoc
theorem nubF_nd : ∀ (l D : List Nat), D.Nodup → (nubF D l).Nodup
  | [], D, h => h
  | y :: l, D, h => by
    unfold nubF
    refine nubF_nd l _ ?_
    split
    · exact h
    · rename_i hn
      rw [List.nodup_append]
      refine ⟨h, by simp, fun a ha b hb => ?_⟩
      rw [List.mem_singleton.mp hb]
      exact fun e => hn (by rw [← e]; exact ha)
theorem nub_len {l : List Nat} {n : Nat} (h : ∀ x, x ∈ l ↔ x < n) : (nubF [] l).length = n := by
  have p : (nubF [] l).Perm (List.range n) := (List.perm_ext_iff_of_nodup (nubF_nd l [] List.nodup_nil) List.nodup_range).mpr (fun x => by rw [nubF_mem, List.mem_range, ← h x]; simp)
  rw [p.length_eq, List.length_range]
theorem bld_len {l : VL} {n : Nat} (h : ∀ x, x ∈ l.map (fun q => q.1) ↔ x < n) : (bldF bs0 l).2.2.length = n := by
  have hok := bld_ok (l := l) l.length (Nat.le_refl _)
  rw [List.take_length] at hok
  rw [← hok.2.1, bldF_nub]
  exact nub_len h
theorem vq_map {g : Nat → Nat × Bool × Bool} {n k : Nat} (h : k < n) : vq ((List.range n).map g) k = g k := by
  rw [vq_get (by simpa using h), List.getElem_map, List.getElem_range]
theorem RRep.kp {S : St} {P : Pic} {I J : KI} (hr : RRep S I) (hp : MPs (S.1 ++ [P]) J) (hf : ∀ a k, ¬ (a = 101 ∧ k = 0) → ¬ (102 ≤ a ∧ a ≤ 105) → J a k = I a k) : RRep (S.1 ++ [P], S.2) J :=
  ⟨hp, hr.2.1.fr (fun a k hk => hf _ _ (by omega) (by omega)), hr.2.2.1.fr (fun a k hk => hf _ _ (by omega) (by omega)), hr.2.2.2.1.fr (fun a k hk => hf _ _ (by omega) (by omega)), hr.2.2.2.2.1.fr (fun a k hk => hf _ _ (by omega) (by omega)), hr.2.2.2.2.2.fr (fun a k _ _ => hf _ _ (by omega) (by omega))⟩
/-- where a place's visit comes from, once the first j pairs are swapped -/
def tnp (m j k : Nat) : Nat := if k < j ∨ m - j ≤ k then m - 1 - k else k
theorem tnp_lt {m j k : Nat} (h : k < m) : tnp m j k < m := by unfold tnp; split <;> omega
theorem vlt_names {P : Pic} (h : PicOk P) : ∀ x, x ∈ (vlt P P.1.length).map (fun q => q.1) ↔ x < P.2.length := fun x => by
  unfold vlt
  rw [List.map_map, List.mem_map]
  refine ⟨fun ⟨k, hk, e⟩ => ?_, fun hx => ?_⟩
  · have hk := List.mem_range.mp hk
    rw [← e]
    exact h.lt (by omega)
  · have hw := h.pwh x hx true
    obtain ⟨k, hk, e⟩ := List.mem_iff_getElem.mp ((h.2.2.1 x true).mpr hx)
    refine ⟨P.1.length - 1 - k, List.mem_range.mpr (by omega), ?_⟩
    show pcx P (P.1.length - 1 - (P.1.length - 1 - k)) = x
    rw [show P.1.length - 1 - (P.1.length - 1 - k) = k by omega]
    unfold pcx
    rw [List.getD_eq_getElem?_getD, List.getElem?_eq_getElem hk]
    show P.1[k].1 = x
    rw [e]
theorem m_turn {xs : KS} {p : Int} : MOk xs 198 [(0, 19, 0, 101), (1, 0, 0, p)] (opTurn p) := by
  intro d S G I Q hS hI h
  have no : ∀ r J, mscr I J → opTurn p S = (r, S) → Q r G J := fun r J hm e => by rw [e] at h; exact h G J (hS.ms hm) hm.lo
  refine b_M_turn_0 (t_M_isPicture hS.1.1 hS.1.2.1 ⟨fun h1 => ?_, fun h1 => no _ _ (mscr.rf I) (by unfold opTurn; rw [if_neg (fun hh => of_decide_eq_false (bi0 h1) hh)])⟩)
  have hp : 0 ≤ p ∧ p < S.1.length := of_decide_eq_true (bi1 h1)
  have h12 := hS.1.2.1
  obtain ⟨i, rfl⟩ : ∃ i : Nat, p = i := ⟨p.toNat, by omega⟩
  have hi : i < S.1.length := by omega
  have hok := hI.ok i hi
  have hn7 := hok.1
  have hl2 := hok.len
  unfold opTurn at no h
  rw [if_pos hp, show pg S.1 (i : Int) = pget S.1 i from rfl] at no h
  rw [hS.1.1]
  refine ⟨fun h2 => t_M_takesUp hS.1 hi (fun J0 hP0 hf0 => ?_), fun h2 => no _ _ (mscr.rf I) (by rw [if_pos (by omega)])⟩
  rw [if_neg (by omega)] at h
  generalize hPP : pget S.1 i = P at *
  obtain ⟨_, _, p3, p4, p5⟩ := hP0
  refine loop_up (n := P.2.length) (W := fun c => ∀ J : KI, (∀ k : Nat, k < P.1.length → J 106 (k : Int) = (pcx P (tnp P.1.length c k) : Int) ∧ J 107 (k : Int) = bi (pov P (tnp P.1.length c k))) → (∀ a k, a ≠ 106 → a ≠ 107 → J a k = J0 a k) → kWP xs true (d + 80) 0 0 198 29 [(0, 19, 0, 101), (2, 0, 0, (c : Int))] [] G J Q) ?_ ?_ (Nat.zero_le _) J0 (fun k hk => ?_) (fun _ _ _ _ => rfl)
  · intro J hJ hf
    refine b_M_turn_29 ?_
    rw [hf _ _ (by omega) (by omega), p3]
    refine ⟨fun _ => ?_, fun hh => by omega⟩
    have hvl : (vlt P P.1.length).length = P.1.length := by unfold vlt; simp
    refine t_M_numbersAnew (l := vlt P P.1.length) (n := P.2.length) ⟨hn7, by omega, by rw [hf _ _ (by omega) (by omega)]; exact p3, fun k hk => ?_⟩ (bld_len (vlt_names hok)) (fun J1 hP1 hf1 => ?_)
    · rw [hvl] at hk
      obtain ⟨x, y⟩ := hJ k hk
      have et : tnp P.1.length P.2.length k = P.1.length - 1 - k := by unfold tnp; rw [if_pos (by omega)]
      rw [et] at x y
      have ev : vq (vlt P P.1.length) k = vof P (P.1.length - 1 - k) := vq_map hk
      have hlt := hok.lt (k := P.1.length - 1 - k) (by omega)
      rw [ev]
      exact ⟨x, y, by show pcx P (P.1.length - 1 - k) < 7; omega, by rw [hf _ _ (by omega) (by omega)]; exact p5 _ hlt⟩
    · have hm : mscr I J1 := hf0.ms.tr (fun a k n1 n2 => by rw [hf1 _ _ (by omega) (by omega), hf _ _ (by omega) (by omega)])
      refine t_M_keeps (hS.1.ms hm) (by omega) hP1 (fun J2 hp2 hf2 => ?_)
      unfold addP rbT at h
      exact h G J2 ((hS.ms hm).kp hp2 hf2) (fun a k hk => by rw [hf2 _ _ (by omega) (by omega)]; exact hm.lo a k hk)
  · intro c hc ih J hJ hf
    refine b_M_turn_29 ?_
    rw [hf 101 5 (by omega) (by omega), p3, w32_id (x := 2 * (P.2.length : Int)) (by omega) (by omega), w32_id (x := 2 * (P.2.length : Int) - 1) (by omega) (by omega), w32_id (x := 2 * (P.2.length : Int) - 1 - (c : Int)) (by omega) (by omega), w32_inc (k := c) (by omega), show 2 * (P.2.length : Int) - 1 - (c : Int) = ((P.1.length - 1 - c : Nat) : Int) by omega]
    obtain ⟨a1, a2⟩ := hJ c (by omega)
    obtain ⟨b1, b2⟩ := hJ (P.1.length - 1 - c) (by omega)
    have t1 : tnp P.1.length c c = c := by unfold tnp; rw [if_neg (by omega)]
    have t2 : tnp P.1.length c (P.1.length - 1 - c) = P.1.length - 1 - c := by unfold tnp; rw [if_neg (by omega)]
    rw [t1] at a1 a2
    rw [t2] at b1 b2
    refine ⟨fun hh => by omega, fun _ => ⟨by omega, by omega, by omega, by omega, fun K1 e1 => ⟨by omega, by omega, ?_⟩⟩⟩
    have k1 : K1 107 ((P.1.length - 1 - c : Nat) : Int) = bi (pov P (P.1.length - 1 - c)) := by rw [e1, kst_n (by omega)]; exact b2
    rw [k1]
    refine kzr_bi (fun K2 e2 => ⟨by omega, fun K3 e3 => ⟨by omega, ?_⟩⟩)
    rw [a2]
    refine kzr_bi (fun K4 e4 => ih K4 (fun k hk => ?_) (fun a k n1 n2 => by rw [e4, kst_n (by omega), e3, kst_n (by omega), e2, kst_n (by omega), e1, kst_n (by omega)]; exact hf a k n1 n2))
    rw [a1] at e3
    rw [b1] at e1
    by_cases q1 : k = c
    · have t : tnp P.1.length (c + 1) k = P.1.length - 1 - c := by unfold tnp; rw [if_pos (by omega)]; omega
      rw [t, q1]
      refine ⟨?_, ?_⟩
      · rw [e4, kst_n (by omega), e3, kst_n (by omega), e2, kst_n (by omega), e1, kst_s]
      · rw [e4, kst_n (by omega), e3, kst_n (by omega), e2, kst_s]
    · by_cases q2 : k = P.1.length - 1 - c
      · have t : tnp P.1.length (c + 1) k = c := by unfold tnp; rw [if_pos (by omega)]; omega
        rw [t, q2]
        refine ⟨?_, ?_⟩
        · rw [e4, kst_n (by omega), e3, kst_s]
        · rw [e4, kst_s]
      · have t : tnp P.1.length (c + 1) k = tnp P.1.length c k := by
          unfold tnp
          by_cases w : k < c ∨ P.1.length - c ≤ k
          · rw [if_pos w, if_pos (by omega)]
          · rw [if_neg w, if_neg (by omega)]
        rw [t, e4, kst_n (by omega), kst_n (by omega), e3, kst_n (by omega), kst_n (by omega), e2, kst_n (by omega), kst_n (by omega), e1, kst_n (by omega), kst_n (by omega)]
        exact hJ k hk
  · have t : tnp P.1.length 0 k = k := by unfold tnp; rw [if_neg (by omega)]
    rw [t]
    exact p4 k hk
