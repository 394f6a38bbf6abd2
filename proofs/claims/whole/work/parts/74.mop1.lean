/-! THE MODEL'S CALLS: what pictures are -/
theorem plc_agn {P : Pic} (h : PicOk P) {k : Nat} (hk : k < P.1.length) : plc P (pcx P k) (!(pov P k)) = (agn P k : Int) := by
  have hc := h.lt hk
  rw [plc_pln h.pwh hc]
  congr 1
  have hlt : pln P (pcx P k) (!(pov P k)) < P.1.length := h.pwh _ hc _
  have hsp := fnd_spec (f := fun j => decide (pcx P j = pcx P k) && (pov P j == !(pov P k))) hlt
  have hmin := fun j (hj : j < pln P (pcx P k) (!(pov P k))) => fnd_min (f := fun j => decide (pcx P j = pcx P k) && (pov P j == !(pov P k))) (n := P.1.length) hj
  change (decide (pcx P (pln P (pcx P k) (!(pov P k))) = pcx P k) && (pov P (pln P (pcx P k) (!(pov P k))) == !(pov P k))) = true at hsp
  generalize hj : pln P (pcx P k) (!(pov P k)) = j at *
  rw [Bool.and_eq_true, decide_eq_true_eq, beq_iff_eq] at hsp
  have hne : j ≠ k := by intro e; rw [e] at hsp; cases hb : pov P k <;> rw [hb] at hsp <;> simp at hsp
  unfold agn
  simp only
  have inj : ∀ a b, a < P.1.length → b < P.1.length → pcx P a = pcx P b → pov P a = pov P b → a = b := by
    intro a b ha hb e1 e2
    have := h.2.1
    have this := List.pairwise_iff_getElem.mp this
    have e3 : P.1[a] = P.1[b] := by
      have ga : P.1.getD a (0, false) = P.1[a] := by rw [List.getD_eq_getElem?_getD, List.getElem?_eq_getElem ha]; rfl
      have gb : P.1.getD b (0, false) = P.1[b] := by rw [List.getD_eq_getElem?_getD, List.getElem?_eq_getElem hb]; rfl
      unfold pcx at e1; unfold pov at e2
      rw [ga, gb] at e1 e2
      exact Prod.ext e1 e2
    rcases Nat.lt_trichotomy a b with hl | hl | hl
    · exact absurd e3 (this a b ha hb hl)
    · exact hl
    · exact absurd e3.symm (this b a hb ha hl)
  have ef := fnd_eq (f := fun j => decide (j ≠ k) && decide (pcx P j = pcx P k)) hlt (by simp [hne, hsp.1]) (fun i hi => by
    by_cases e1 : i = k
    · simp [e1]
    · by_cases e2 : pcx P i = pcx P k
      · exfalso
        have hm := hmin i hi
        simp only [e2, decide_true, Bool.true_and] at hm
        have e3 : pov P i = pov P k := by
          cases h1 : pov P i <;> cases h2 : pov P k <;> rw [h1, h2] at hm <;> simp at hm ⊢
        exact e1 (inj i k (by omega) hk e2 e3)
      · simp [e2])
  rw [ef, if_pos hlt]
theorem Inv.ok {S : St} (hI : Inv S) : ∀ i, i < S.1.length → PicOk (pget S.1 i) := fun _ hi => hI.pic hi
theorem m_of {xs : KS} {p what : Int} (hM : OwedM xs) (hF : ∀ (d : Nat) (P : Pic) (G : KG) (I : KI) (Q : KQ), MHd P I → PicOk P → (∀ I' : KI, kfr 111 113 I I' → Q (fcC P : Int) G I') → kWP xs true (d + 5) 0 0 154 0 [(0, 19, 0, 101)] [] G I Q) : MOk xs 168 [(0, 19, 0, 101), (1, 0, 0, p), (2, 0, 0, what)] (opOf xs p what) := by
  intro d S G I Q hS hI h
  refine b_M_of_0 (t_M_isPicture hS.1.1 hS.1.2.1 ⟨fun h1 => ?_, fun h1 => ?_⟩)
  · have hp : 0 ≤ p ∧ p < S.1.length := of_decide_eq_true (bi1 h1)
    have h12 := hS.1.2.1
    obtain ⟨i, rfl⟩ : ∃ i : Nat, p = i := ⟨p.toNat, by omega⟩
    have hi : i < S.1.length := by omega
    have hok := hI.ok i hi
    refine t_M_takesUp hS.1 hi (fun J1 hP1 hf1 => t_M_findSumV hM hP1 hok (fun J2 hV2 hf2 => ?_))
    have m2 := hf1.ms.tr (hf2.ms (by omega) (by omega))
    have hP2 : MHd (pget S.1 i) J2 := hP1.fr (fun a k hk => hf2 _ _ (by omega))
    have no : ∀ r J, mscr I J → opOf xs (i : Int) what S = (r, S) → Q r G J := fun r J hm e => by rw [e] at h; exact h G J (hS.ms hm) hm.lo
    unfold opOf at no
    rw [if_pos hp, show pg S.1 (i : Int) = pget S.1 i from rfl] at no
    simp only [Int.toNat_natCast] at no
    refine ⟨fun w => no _ _ m2 ?_, fun w => no _ _ m2 ?_, fun w => ?_, fun w => ?_, fun w => ?_, fun w => ?_, fun w => ?_, fun w => ?_, fun w => ?_, trivial⟩
    · rw [if_neg (by omega), if_neg (by omega), if_neg (by omega), if_neg (by omega), if_neg (by omega), if_neg (by omega), if_neg (by omega)]
    · rw [if_neg (by omega), if_neg (by omega), if_neg (by omega), if_neg (by omega), if_neg (by omega), if_neg (by omega), if_neg (by omega)]
    · rw [hP2.2.2.1]
      exact no _ _ m2 (by rw [if_pos w])
    · exact t_M_writhe hP2 (no _ _ m2 (by rw [if_neg (by omega), if_pos w]))
    · exact hF _ _ _ _ _ hP2 hok (fun J3 hf3 => no _ _ (m2.tr (hf3.ms (by omega) (by omega))) (by rw [if_neg (by omega), if_neg (by omega), if_pos w]))
    · exact t_M_end0 hV2 (hM _ hok).2.2 (no _ _ m2 (by rw [if_neg (by omega), if_neg (by omega), if_neg (by omega), if_pos w]))
    · exact t_M_end1 hV2 (hM _ hok).2.2 (no _ _ m2 (by rw [if_neg (by omega), if_neg (by omega), if_neg (by omega), if_neg (by omega), if_pos w]))
    · refine t_M_isPlain hV2 ?_
      have := no (bi (isPl (pv xs (pget S.1 i)))) _ m2 (by rw [if_neg (by omega), if_neg (by omega), if_neg (by omega), if_neg (by omega), if_neg (by omega), if_pos w])
      cases hb : isPl (pv xs (pget S.1 i)) with
      | false => rw [hb] at this; exact ⟨fun _ => this, fun hh => absurd rfl hh⟩
      | true => rw [hb] at this; exact ⟨fun hh => absurd hh (by decide), fun _ => this⟩
    · exact t_M_whichOf hM (hS.1.ms m2) hi hI.ok (fun J3 hf3 => no _ _ (m2.tr hf3) (by rw [if_neg (by omega), if_neg (by omega), if_neg (by omega), if_neg (by omega), if_neg (by omega), if_neg (by omega), if_pos w]))
  · have e : opOf xs p what S = (-2000000000, S) := by unfold opOf; rw [if_neg (of_decide_eq_false (bi0 h1))]
    rw [e] at h
    exact h G I hS (lof.rf I)
theorem m_led {xs : KS} {p k what : Int} : MOk xs 169 [(0, 19, 0, 101), (1, 0, 0, p), (2, 0, 0, k), (3, 0, 0, what)] (opLed p k what) := by
  intro d S G I Q hS hI h
  have no : ∀ r J, mscr I J → opLed p k what S = (r, S) → Q r G J := fun r J hm e => by rw [e] at h; exact h G J (hS.ms hm) hm.lo
  refine b_M_led_0 (t_M_isPicture hS.1.1 hS.1.2.1 ⟨fun h1 => no _ _ (mscr.rf I) (by unfold opLed; rw [if_neg (fun hh => of_decide_eq_false (bi0 h1) ⟨hh.1, hh.2.1⟩)]), fun h1 => ?_⟩)
  have hp : 0 ≤ p ∧ p < S.1.length := of_decide_eq_true (bi1 h1)
  have h12 := hS.1.2.1
  obtain ⟨i, rfl⟩ : ∃ i : Nat, p = i := ⟨p.toNat, by omega⟩
  have hi : i < S.1.length := by omega
  have hok := hI.ok i hi
  obtain ⟨a7, a2, an, av, as⟩ := hS.1.2.2 i hi
  unfold opLed at no
  rw [show pg S.1 (i : Int) = pget S.1 i from rfl] at no
  rw [an, w32_id (x := 2 * ((pget S.1 i).2.length : Int)) (by omega) (by omega), w32_id (x := 2 * ((pget S.1 i).2.length : Int) - 1) (by omega) (by omega)]
  refine ⟨by omega, t_M_within ⟨fun h2 => ?_, fun h2 => no _ _ (mscr.rf I) (by rw [if_neg (by have := of_decide_eq_false (bi0 h2); omega)])⟩⟩
  have h2 := of_decide_eq_true (bi1 h2)
  obtain ⟨j, rfl⟩ : ∃ j : Nat, k = j := ⟨k.toNat, by omega⟩
  have hj : j < (pget S.1 i).1.length := by omega
  rw [if_pos ⟨hp.1, hp.2, h2.1, by omega⟩] at no
  simp only [Int.toNat_natCast] at no
  refine t_M_takesUp hS.1 hi (fun J hP hf => ?_)
  have hm := hf.ms
  have hv := hP.2.2.2.1 j hj
  have hc := hok.lt hj
  refine ⟨fun w => no _ _ hm (by rw [if_neg (by omega), if_neg (by omega), if_neg (by omega)]), fun w => no _ _ hm (by rw [if_neg (by omega), if_neg (by omega), if_neg (by omega)]), fun w => ?_, fun w => ?_, fun w => ?_, trivial⟩
  · rw [hv.1, hv.2, w32_id (x := 10 * (pcx (pget S.1 i) j : Int)) (by omega) (by omega), w32_id (by omega) (by omega), w32_id (by omega) (by omega)]
    rw [if_pos w] at no
    refine ⟨by omega, by omega, fun h3 => ?_, fun h3 => ?_⟩
    · rw [bi0 h3] at no; exact no _ _ hm rfl
    · rw [bi1 h3] at no; exact no _ _ hm rfl
  · rw [hv.1, hP.2.2.2.2 _ hc]
    rw [if_neg (by omega), if_pos w] at no
    refine ⟨by omega, by omega, no _ _ hm ?_⟩
    rfl
  · rw [if_neg (by omega), if_neg (by omega), if_pos w] at no
    rw [hv.1, hv.2]
    have hp := plc_agn hok hj
    refine ⟨by omega, by omega, fun h3 => ?_, fun h3 => ?_⟩
    · rw [bi1 h3] at hp
      refine t_M_placeOf (b := false) hP (no _ _ hm ?_)
      rw [← hp]; rfl
    · rw [bi0 h3] at hp
      refine t_M_placeOf (b := true) hP (no _ _ hm ?_)
      rw [← hp]; rfl
theorem m_sum {xs : KS} {p e : Int} (hM : OwedM xs) : MOk xs 170 [(0, 19, 0, 101), (1, 0, 0, p), (2, 0, 0, e)] (opSum xs p e) := by
  intro d S G I Q hS hI h
  have no : ∀ r J, mscr I J → opSum xs p e S = (r, S) → Q r G J := fun r J hm e => by rw [e] at h; exact h G J (hS.ms hm) hm.lo
  refine b_M_sum_0 (t_M_isPicture hS.1.1 hS.1.2.1 ⟨fun h1 => no _ _ (mscr.rf I) (by unfold opSum; rw [if_neg (fun hh => of_decide_eq_false (bi0 h1) ⟨hh.1, hh.2.1⟩)]), fun h1 => t_M_within ⟨fun h2 => ?_, fun h2 => no _ _ (mscr.rf I) (by unfold opSum; rw [if_neg (fun hh => of_decide_eq_false (bi0 h2) ⟨hh.2.2.1, hh.2.2.2⟩)])⟩⟩)
  have hp : 0 ≤ p ∧ p < S.1.length := of_decide_eq_true (bi1 h1)
  have h2 := of_decide_eq_true (bi1 h2)
  have h12 := hS.1.2.1
  obtain ⟨i, rfl⟩ : ∃ i : Nat, p = i := ⟨p.toNat, by omega⟩
  have hi : i < S.1.length := by omega
  refine t_M_takesUp hS.1 hi (fun J1 hP1 hf1 => t_M_findSumV hM hP1 (hI.ok i hi) (fun J2 hV2 hf2 => ?_))
  have m2 := hf1.ms.tr (hf2.ms (by omega) (by omega))
  obtain ⟨x, hx⟩ : ∃ x : Nat, (x : Int) = 60 + e := ⟨(60 + e).toNat, by omega⟩
  rw [w32_id (by omega) (by omega), ← hx]
  refine ⟨by omega, ?_⟩
  rw [hV2 x (by omega)]
  refine no _ _ m2 ?_
  unfold opSum vx
  rw [if_pos ⟨hp.1, hp.2, h2.1, h2.2⟩, show pg S.1 (i : Int) = pget S.1 i from rfl]
  by_cases hc : -42 ≤ e ∧ e ≤ 42 ∧ e % 2 = 0
  · rw [if_pos hc, if_pos (by omega), show ((e + 42) / 2).toNat = (x - 18) / 2 by omega]
  · rw [if_neg hc, if_neg (by omega)]
theorem m_alike {xs : KS} {pq : Int} (hq : pq < 2147483648) (hM : OwedM xs) : MOk xs 171 [(0, 19, 0, 101), (1, 0, 0, pq)] (opAlike xs pq) := by
  intro d S G I Q hS hI h
  have no : ∀ r J, mscr I J → opAlike xs pq S = (r, S) → Q r G J := fun r J hm e => by rw [e] at h; exact h G J (hS.ms hm) hm.lo
  have bad : ¬ (0 ≤ pq ∧ pq / 100 < S.1.length ∧ pq % 100 < S.1.length) → Q (-1) G I := fun hn => no _ _ (mscr.rf I) (by unfold opAlike; rw [if_neg hn])
  refine b_M_alike_0 ⟨fun h1 => bad (by omega), fun h1 => ⟨by omega, ?_⟩⟩
  rw [(k100 h1 hq).1, (k100 h1 hq).2]
  refine t_M_isPicture hS.1.1 hS.1.2.1 ⟨fun h2 => bad (by have := of_decide_eq_false (bi0 h2); omega), fun h2 => ⟨by omega, t_M_isPicture hS.1.1 hS.1.2.1 ⟨fun h3 => bad (by have := of_decide_eq_false (bi0 h3); omega), fun h3 => ⟨by omega, by omega, ?_⟩⟩⟩⟩
  have h2 := of_decide_eq_true (bi1 h2)
  have h3 := of_decide_eq_true (bi1 h3)
  obtain ⟨i, hi⟩ : ∃ i : Nat, i = (pq / 100).toNat := ⟨_, rfl⟩
  obtain ⟨j, hj⟩ : ∃ j : Nat, j = (pq % 100).toNat := ⟨_, rfl⟩
  unfold opAlike at no
  rw [if_pos ⟨h1, h2.2, h3.2⟩, show pg S.1 (pq / 100) = pget S.1 (pq / 100).toNat from rfl, show pg S.1 (pq % 100) = pget S.1 (pq % 100).toNat from rfl, ← hi, ← hj] at no
  rw [show pq / 100 = (i : Int) by omega, show pq % 100 = (j : Int) by omega]
  refine t_M_areAlike hM hS.1 (by omega) (by omega) (hI.ok i (by omega)) (hI.ok j (by omega)) (fun J hm => ?_)
  rw [eqV_sym]
  have := no _ _ hm rfl
  cases hb : eqV (pv xs (pget S.1 i)) (pv xs (pget S.1 j)) with
  | false => rw [hb] at this; exact ⟨fun _ => this, fun hh => absurd rfl hh⟩
  | true => rw [hb] at this; exact ⟨fun hh => absurd hh (by decide), fun _ => this⟩
