/-! THE MODEL'S CALLS: simpler, simplify -/
theorem wfr.ms {I J : KI} (h : wfr I J) : mscr I J := fun a k n1 n2 => h a k (by omega) (by omega)
theorem m_simpler {xs : KS} {p what : Int} (hO : Owed) : MOk xs 212 [(0, 19, 0, 101), (1, 0, 0, p), (2, 0, 0, what)] (opSimpler p what) := by
  intro d S G I Q hS hI h
  have no : ∀ r J, mscr I J → opSimpler p what S = (r, S) → Q r G J := fun r J hm e => by rw [e] at h; exact h G J (hS.ms hm) hm.lo
  refine b_M_simpler_0 (t_M_isPicture hS.1.1 hS.1.2.1 ⟨fun h1 => no _ _ (mscr.rf I) (by unfold opSimpler; rw [if_neg (fun hh => of_decide_eq_false (bi0 h1) ⟨hh.1, hh.2.1⟩)]), fun h1 => t_M_within ⟨fun h2 => ?_, fun h2 => no _ _ (mscr.rf I) (by unfold opSimpler; rw [if_neg (fun hh => of_decide_eq_false (bi0 h2) ⟨hh.2.2.1, hh.2.2.2⟩)])⟩⟩)
  have hp : 0 ≤ p ∧ p < S.1.length := of_decide_eq_true (bi1 h1)
  have h2 := of_decide_eq_true (bi1 h2)
  have h12 := hS.1.2.1
  obtain ⟨i, rfl⟩ : ∃ i : Nat, p = i := ⟨p.toNat, by omega⟩
  have hi : i < S.1.length := by omega
  have hok := hI.ok i hi
  unfold opSimpler at no
  rw [if_pos ⟨hp.1, hp.2, h2.1, h2.2⟩, show pg S.1 (i : Int) = pget S.1 i from rfl] at no
  simp only at no
  refine t_M_takesUp hS.1 hi (fun J hP hf => t_M_simplifies hO hP hok (fun J1 hP1 hf1 => ?_))
  have hm := hf.ms.tr hf1.ms
  refine ⟨fun w => no _ _ hm ?_, fun w => no _ _ hm (by rw [if_pos w])⟩
  rw [if_neg w, hP1.2.2.1]
theorem m_simplify {xs : KS} {p : Int} (hO : Owed) : MOk xs 213 [(0, 19, 0, 101), (1, 0, 0, p)] (opSimplify p) := by
  intro d S G I Q hS hI h
  have no : ∀ r J, mscr I J → opSimplify p S = (r, S) → Q r G J := fun r J hm e => by rw [e] at h; exact h G J (hS.ms hm) hm.lo
  refine b_M_simplify_0 (t_M_isPicture hS.1.1 hS.1.2.1 ⟨fun h1 => ?_, fun h1 => no _ _ (mscr.rf I) (by unfold opSimplify; rw [if_neg (fun hh => of_decide_eq_false (bi0 h1) hh)])⟩)
  have hp : 0 ≤ p ∧ p < S.1.length := of_decide_eq_true (bi1 h1)
  have h12 := hS.1.2.1
  obtain ⟨i, rfl⟩ : ∃ i : Nat, p = i := ⟨p.toNat, by omega⟩
  have hi : i < S.1.length := by omega
  have hok := hI.ok i hi
  unfold opSimplify at h
  rw [if_pos hp, show pg S.1 (i : Int) = pget S.1 i from rfl] at h
  simp only [Int.toNat_natCast] at h
  refine t_M_takesUp hS.1 hi (fun J hP hf => t_M_simplifies hO hP hok (fun J1 hP1 hf1 => ?_))
  have hm := hf.ms.tr hf1.ms
  have hr := hS.ms hm
  refine t_M_laysDown (by omega) hP1 (fun J2 hA hf2 J3 e3 J4 e4 => ?_)
  have f2 : ∀ a k, ¬ (102 ≤ a ∧ a ≤ 105) → J2 a k = J1 a k := fun a k n => hf2 a k (by omega)
  have hps : MPs (S.1.set i (smpL 7 (pget S.1 i)).2) J2 := hr.1.upd hi hA hf2
  have g4 : J4 101 5 = ((smpL 7 (pget S.1 i)).2.2.length : Int) := by
    rw [e4, kst_n (by omega), e3, kst_n (by omega), f2 _ _ (by omega)]; exact hP1.2.2.1
  rw [g4]
  refine h G J4 (hr.chg (fun a k n1 n2 n3 => by rw [e4, kst_n (by omega), e3, kst_n (by omega), f2 _ _ (by omega)]) (hps.fr (fun a k hk => by rw [e4, kst_n (by omega), e3, kst_n (by omega)])) ⟨by rw [e4, kst_n (by omega), e3, kst_s]; rfl, by rw [e4, kst_s]; rfl, Nat.zero_le _, by simp, fun k hk => absurd hk (Nat.not_lt_zero k)⟩) (fun a k hk => by rw [e4, kst_n (by omega), e3, kst_n (by omega), f2 _ _ (by omega)]; exact hm.lo a k hk)
