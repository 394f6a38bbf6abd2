/-! THE MODEL'S CALLS: shake and least, over what the shaking owes -/
theorem t_M_areStrands {xs : KS} {d : Nat} {v : Int} {G : KG} {I : KI} {Q : KQ} (h : Q (bi (decide (2 ≤ v ∧ v ≤ 4))) G I) : kWP xs true (d + 1) 0 0 194 0 [(0, 0, 0, v)] [] G I Q :=
  b_M_areStrands_0 (t_M_within (kzr_bi h))
theorem t_M_isSm {xs : KS} {d : Nat} {v : Int} {G : KG} {I : KI} {Q : KQ} (h : Q (bi (isSm v)) G I) : kWP xs true (d + 2) 0 0 220 0 [(0, 0, 0, v)] [] G I Q := by
  unfold isSm at h
  refine b_M_isSm_0 (t_M_within ⟨fun h1 => ?_, fun h1 => ⟨by omega, t_M_areStrands ⟨fun h2 => ?_, fun h2 => ?_⟩⟩⟩)
  · have h1 := of_decide_eq_false (bi0 h1)
    rw [decide_eq_false (by omega)] at h; exact h
  · have h2 := of_decide_eq_false (bi0 h2)
    rw [decide_eq_false (by omega)] at h; exact h
  · have h1 := of_decide_eq_true (bi1 h1)
    have h2 := of_decide_eq_true (bi1 h2)
    rw [decide_eq_true ⟨h1.1, h1.2, h2.1, h2.2⟩] at h; exact h
/-- what the model's shaking owes -/
def OwedS (xs : KS) : Prop := ∀ (d : Nat) (S : St) (G : KG) (I : KI) (Q : KQ) (len box st seed : Int) (m t : Nat), RRep S I → Inv S → 0 ≤ len → len ≤ 99 → 0 ≤ box → box ≤ 99 → 0 ≤ st → st ≤ 9 → 2 ≤ m → m ≤ 4 → t ≤ 50 →
  (∀ I' : KI, I' 101 35 = (((shk xs (fw8 S.2.2.1) S.2.2.1.length len box st m seed t).2.1 : Nat) : Int) → I' 101 36 = (((shk xs (fw8 S.2.2.1) S.2.2.1.length len box st m seed t).2.2 : Nat) : Int) → mscr I I' → Q 0 G I') → kWP xs true (d + 70) 0 0 219 0 [(0, 19, 0, 101), (1, 0, 0, len), (2, 0, 0, box), (3, 0, 0, st), (4, 0, 0, (m : Int)), (5, 0, 0, seed), (6, 0, 0, (t : Int))] [] G I Q
theorem sm_num {v : Int} (h : isSm v = true) : 0 ≤ kidiv v 10 ∧ kidiv v 10 ≤ 9 ∧ ∃ m : Nat, kirem v 10 = (m : Int) ∧ (kirem v 10).toNat = m ∧ 2 ≤ m ∧ m ≤ 4 := by
  have h1 := of_decide_eq_true h
  obtain ⟨n, rfl⟩ : ∃ n : Nat, v = n := ⟨v.toNat, by omega⟩
  have e1 : kidiv (n : Int) 10 = ((n / 10 : Nat) : Int) := kidiv_n (b := 10) (by omega) (by omega) (by omega)
  have e2 : kirem (n : Int) 10 = ((n % 10 : Nat) : Int) := kirem_n (b := 10) (by omega) (by omega) (by omega)
  rw [e2] at h1 ⊢
  rw [e1]
  exact ⟨by omega, by omega, n % 10, rfl, rfl, by omega, by omega⟩
theorem m_shake {xs : KS} {nb sm seed tn : Int} (ht : tn < 2147483648) (hK : OwedS xs) : MOk xs 221 [(0, 19, 0, 101), (1, 0, 0, nb), (2, 0, 0, sm), (3, 0, 0, seed), (4, 0, 0, tn)] (opShake xs nb sm seed tn) := by
  intro d S G I Q hS hI h
  have no : ∀ r J, mscr I J → opShake xs nb sm seed tn S = (r, S) → Q r G J := fun r J hm e => by rw [e] at h; exact h G J (hS.ms hm) hm.lo
  have bad : ¬ (0 ≤ nb ∧ nb ≤ 9999 ∧ isSm sm = true ∧ 0 ≤ tn ∧ 1 ≤ tn / 10 ∧ tn / 10 ≤ 50 ∧ tn % 10 ≤ 1) → Q (-1) G I := fun hn => no _ _ (mscr.rf I) (by unfold opShake; rw [if_neg hn])
  refine b_M_shake_0 (t_M_within ⟨fun h1 => bad (fun hh => of_decide_eq_false (bi0 h1) ⟨hh.1, hh.2.1⟩), fun h1 => t_M_isSm ⟨fun h2 => bad (fun hh => by rw [bi0 h2] at hh; exact absurd hh.2.2.1 (by decide)), fun h2 => ⟨fun h3 => bad (by omega), fun h3 => ⟨by omega, ?_⟩⟩⟩⟩)
  have h1 := of_decide_eq_true (bi1 h1)
  have h2 := bi1 h2
  obtain ⟨t, rfl⟩ : ∃ t : Nat, tn = t := ⟨tn.toNat, by omega⟩
  obtain ⟨n, rfl⟩ : ∃ n : Nat, nb = n := ⟨nb.toNat, by omega⟩
  have e1 : kidiv (t : Int) 10 = ((t / 10 : Nat) : Int) := kidiv_n (b := 10) (by omega) (by omega) (by omega)
  have e2 : kirem (t : Int) 10 = ((t % 10 : Nat) : Int) := kirem_n (b := 10) (by omega) (by omega) (by omega)
  have e3 : kidiv (n : Int) 100 = ((n / 100 : Nat) : Int) := kidiv_n (b := 100) (by omega) (by omega) (by omega)
  have e4 : kirem (n : Int) 100 = ((n % 100 : Nat) : Int) := kirem_n (b := 100) (by omega) (by omega) (by omega)
  rw [e1, e2, e3, e4]
  refine t_M_within ⟨fun h4 => bad (fun hh => of_decide_eq_false (bi0 h4) ⟨by omega, by omega⟩), fun h4 => ⟨by omega, fun h5 => ⟨by omega, by omega, by omega, by omega, by omega, ?_⟩, fun h5 => bad (by omega)⟩⟩
  have h4 := of_decide_eq_true (bi1 h4)
  obtain ⟨s1, s2, m, m1, m2, m3, m4⟩ := sm_num h2
  unfold opShake shkS at no
  rw [if_pos ⟨h1.1, h1.2, h2, by omega, by omega, by omega, by omega⟩] at no
  simp only at no
  rw [m2, show (n : Int) / 100 = ((n / 100 : Nat) : Int) by omega, show (n : Int) % 100 = ((n % 100 : Nat) : Int) by omega, show (((t : Int)) / 10).toNat = t / 10 by omega] at no
  rw [m1]
  refine hK _ S G I _ _ _ _ seed m (t / 10) hS hI (by omega) (by omega) (by omega) (by omega) s1 s2 m3 m4 (by omega) (fun J g1 g2 hm => ⟨by omega, fun w => ?_, fun w => ?_⟩)
  · rw [g2]; exact no _ _ hm (by rw [if_neg (by omega)])
  · rw [g1]; exact no _ _ hm (by rw [if_pos (by omega)])
