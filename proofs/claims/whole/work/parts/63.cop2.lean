/-! THE CLASS'S CALLS: what pictures are -/
theorem Inv.rg {S : St} (hI : Inv S) (hO : Owed) : ∀ i, i < S.1.length → RgOk (pget S.1 i) := fun i hi => hO.1 _ (hI.pic hi)
theorem t_C_which {xs : KS} {d p : Nat} {ps : List Pic} {G : KG} {I : KI} {Q : KQ} (hx : (xs 0).1 = 64) (hS : CPs xs ps I) (hR : ∀ i, i < ps.length → RgOk (pget ps i)) (hp : p < ps.length)
    (h : ∀ I' : KI, CPs xs ps I' → ufr I I' → Q (whc xs ps p) G I') : kWP xs true (d + 4) 0 0 132 0 [(0, 18, 0, 0), (1, 0, 0, (p : Int))] [] G I Q := by
  have h12 := hS.2.1
  unfold whc at h
  simp only at h
  refine b_C_which_0 ⟨by omega, t_C_sumAt hx hS hp (hR p hp) (fun J0 hS0 hV0 hf0 => ?_)⟩
  refine loop_up (n := p) (W := fun i => ∀ J : KI, (∀ j, j < i → eqV (pv xs (pget ps j)) (pv xs (pget ps p)) = false) → CPs xs ps J → (∀ k : Nat, k < 43 → J (2 + (39 + 4 * (p : Int)) + 3) (k : Int) = pv xs (pget ps p) k) → ufr I J → kWP xs true (d + 4) 0 0 132 13 [(0, 18, 0, 0), (1, 0, 0, (p : Int)), (2, 4, 43, (2 + (39 + 4 * (p : Int)) + 3)), (3, 0, 0, (i : Int))] [] G J Q) ?_ ?_ (Nat.zero_le _) J0 (fun j hj => absurd hj (Nat.not_lt_zero j)) hS0 hV0 hf0
  · intro J hl hS hV hf
    have h := h J hS hf
    rw [fnd_none hl, if_neg (by omega)] at h
    exact b_C_which_13 ⟨fun _ => h, fun hh => by omega⟩
  · intro i hi ih J hl hS hV hf
    refine b_C_which_13 ⟨fun hh => by omega, fun _ => ⟨by omega, t_C_sumOf hx (hS.2.2 i (by omega)).1 (by omega) (hR i (by omega)) (hS.2.2 i (by omega)).2 (fun J1 hV1 hf1 => ?_)⟩⟩
    have hV1' : ∀ k : Nat, k < 43 → J1 (2 + (39 + 4 * (p : Int)) + 3) (k : Int) = pv xs (pget ps p) k := fun k hk => by
      rw [hf1 _ _ (by omega) (by omega) (by omega)]; exact hV k hk
    have hS1 : CPs xs ps J1 := by
      obtain ⟨h1, h2, h3⟩ := hS
      refine ⟨by rw [hf1 _ _ (by omega) (by omega) (by omega)]; exact h1, h2, fun j hj => ⟨(h3 j hj).1.moved ⟨hf1 _ _ (by omega) (by omega) (by omega), hf1 _ _ (by omega) (by omega) (by omega), hf1 _ _ (by omega) (by omega) (by omega), hf1 _ _ (by omega) (by omega) (by omega)⟩ (fun k _ _ => hf1 _ _ (by omega) (by omega) (by omega)), fun h4 k hk => ?_⟩⟩
      by_cases hij : j = i
      · subst hij; exact hV1 k hk
      · rw [hf1 _ _ (by omega) (by omega) (by omega)] at h4 ⊢
        exact (h3 j hj).2 h4 k hk
    have hfr : ufr I J1 := hf.tr (fun a k n1 n2 => hf1 a k n1 (by omega) (by omega))
    refine t_C_areAlike (V := pv xs (pget ps i)) (W := pv xs (pget ps p)) hV1 hV1' ?_
    cases hb : eqV (pv xs (pget ps i)) (pv xs (pget ps p)) with
    | false =>
      refine ⟨fun _ => ?_, fun hh => absurd rfl hh⟩
      rw [w32_inc (by omega)]
      exact ih J1 (all_step (p := fun j => eqV (pv xs (pget ps j)) (pv xs (pget ps p)) = false) hl hb) hS1 hV1' hfr
    | true =>
      refine ⟨fun hh => absurd hh (by decide), fun _ => ?_⟩
      have h := h J1 hS1 hfr
      rw [fnd_eq (f := fun i => eqV (pv xs (pget ps i)) (pv xs (pget ps p))) hi hb hl, if_pos hi] at h
      exact h
theorem c_of {xs : KS} {p what : Int} (hx : (xs 0).1 = 64) (hO : Owed) : COk xs 90 [(0, 18, 0, 0), (1, 0, 0, p), (2, 0, 0, what)] (opOf xs p what) := by
  intro d S G I Q hS hI h
  have no : ∀ r, opOf xs p what S = (r, S) → Q r G I := fun r e => by rw [e] at h; exact h G I hS (hif.rf I)
  refine b_C_of_0 (t_C_isPicture hS.1 ⟨fun h1 => ?_, fun h1 => no _ (by unfold opOf; rw [if_neg (of_decide_eq_false (bi0 h1))])⟩)
  have hp : 0 ≤ p ∧ p < S.1.length := of_decide_eq_true (bi1 h1)
  have h12 := hS.1.2.1
  obtain ⟨i, rfl⟩ : ∃ i : Nat, p = i := ⟨p.toNat, by omega⟩
  have hi : i < S.1.length := by omega
  have hP := (hS.1.2.2 i hi).1
  have hR := hI.rg hO
  unfold opOf at h no
  rw [if_pos hp] at h no
  simp only at h no
  have su : ∀ J, CPs xs S.1 J → ufr I J → CRep xs S J ∧ hif I J := fun J a b => ⟨hS.sf b.sf a, b.sf.hi⟩
  refine ⟨by omega, fun w => no _ ?_, fun w => no _ ?_, fun w => ?_, fun w => ?_, fun w => ?_, fun w => ?_, fun w => ?_, fun w => ?_, fun w => ?_, trivial⟩
  · rw [if_neg (by omega), if_neg (by omega), if_neg (by omega), if_neg (by omega), if_neg (by omega), if_neg (by omega), if_neg (by omega)]
  · rw [if_neg (by omega), if_neg (by omega), if_neg (by omega), if_neg (by omega), if_neg (by omega), if_neg (by omega), if_neg (by omega)]
  · rw [hP.2.2.1]
    exact no _ (by rw [if_pos w]; rfl)
  · exact t_Picture_writhe hP (no _ (by rw [if_neg (by omega), if_pos w]; rfl))
  · exact t_Picture_faces hP (no _ (by rw [if_neg (by omega), if_neg (by omega), if_pos w]; rfl))
  · rw [if_neg (by omega), if_neg (by omega), if_neg (by omega), if_pos w] at h
    refine t_C_sumAt hx hS.1 hi (hR i hi) (fun J hSJ hV hf => t_C_leastPower (V := pv xs (pget S.1 i)) hV (h G J (su J hSJ hf).1 (su J hSJ hf).2))
  · rw [if_neg (by omega), if_neg (by omega), if_neg (by omega), if_neg (by omega), if_pos w] at h
    refine t_C_sumAt hx hS.1 hi (hR i hi) (fun J hSJ hV hf => t_C_greatestPower (V := pv xs (pget S.1 i)) hV (h G J (su J hSJ hf).1 (su J hSJ hf).2))
  · rw [if_neg (by omega), if_neg (by omega), if_neg (by omega), if_neg (by omega), if_neg (by omega), if_pos w] at h
    refine t_C_sumAt hx hS.1 hi (hR i hi) (fun J hSJ hV hf => t_C_isPlain (V := pv xs (pget S.1 i)) hV ?_)
    have h := h G J (su J hSJ hf).1 (su J hSJ hf).2
    rw [show pg S.1 (i : Int) = pget S.1 i from rfl] at h
    cases hb : isPl (pv xs (pget S.1 i)) with
    | false => rw [hb] at h; exact ⟨fun _ => h, fun hh => absurd rfl hh⟩
    | true => rw [hb] at h; exact ⟨fun hh => absurd hh (by decide), fun _ => h⟩
  · rw [if_neg (by omega), if_neg (by omega), if_neg (by omega), if_neg (by omega), if_neg (by omega), if_neg (by omega), if_pos w] at h
    exact t_C_which hx hS.1 hR hi (fun J hSJ hf => h G J (su J hSJ hf).1 (su J hSJ hf).2)
theorem c_led {xs : KS} {p k what : Int} : COk xs 91 [(0, 18, 0, 0), (1, 0, 0, p), (2, 0, 0, k), (3, 0, 0, what)] (opLed p k what) := by
  intro d S G I Q hS hI h
  have no : ∀ r, opLed p k what S = (r, S) → Q r G I := fun r e => by rw [e] at h; exact h G I hS (hif.rf I)
  refine b_C_led_0 (t_C_isPicture hS.1 ⟨fun h1 => ?_, fun h1 => no _ (by unfold opLed; rw [if_neg (fun hh => of_decide_eq_false (bi0 h1) ⟨hh.1, hh.2.1⟩)])⟩)
  have hp : 0 ≤ p ∧ p < S.1.length := of_decide_eq_true (bi1 h1)
  have h12 := hS.1.2.1
  obtain ⟨i, rfl⟩ : ∃ i : Nat, p = i := ⟨p.toNat, by omega⟩
  have hi : i < S.1.length := by omega
  have hP := (hS.1.2.2 i hi).1
  have hok := hI.pic hi
  have hlen := hok.len
  have h7 := hok.1
  have epg : pg S.1 (i : Int) = pget S.1 i := rfl
  unfold opLed at no
  rw [epg] at no
  rw [hP.2.2.2.1]
  refine ⟨by omega, fun h2 => no _ (by rw [if_neg (by omega)]), fun h2 => ⟨fun h3 => ⟨by omega, ?_⟩, fun h3 => no _ (by rw [if_neg (by omega)])⟩⟩
  obtain ⟨j, rfl⟩ : ∃ j : Nat, k = j := ⟨k.toNat, by omega⟩
  rw [if_pos ⟨hp.1, hp.2, h2, h3⟩] at no
  simp only [Int.toNat_natCast] at no
  have hj : j < (pget S.1 i).1.length := by omega
  have hc := hok.lt hj
  rw [(hP.2.2.2.2.1 j hj).1, w32_id (x := 10 * (pcx (pget S.1 i) j : Int)) (by omega) (by omega)]
  refine ⟨fun w => no _ (by rw [if_neg (by omega), if_neg (by omega), if_neg (by omega)]), fun w => no _ (by rw [if_neg (by omega), if_neg (by omega), if_neg (by omega)]), fun w => t_Picture_isOver hP (by omega) ?_, fun w => t_Picture_isPlus hP (by omega) ?_, fun w => t_Picture_again hP hj (no _ (by rw [if_neg (by omega), if_neg (by omega), if_pos w])), trivial⟩
  · rw [if_pos w] at no
    cases hb : pov (pget S.1 i) j with
    | false => rw [hb] at no; refine ⟨fun _ => ?_, fun hh => absurd rfl hh⟩; rw [w32_id (by omega) (by omega)]; exact no _ rfl
    | true => rw [hb] at no; refine ⟨fun hh => absurd hh (by decide), fun _ => ?_⟩; rw [w32_id (by omega) (by omega)]; exact no _ rfl
  · rw [if_neg (by omega), if_pos w] at no
    cases hb : psg (pget S.1 i) (pcx (pget S.1 i) j) with
    | false => exact ⟨fun _ => no _ (by rw [if_neg (by rw [hb]; simp)]), fun hh => absurd rfl hh⟩
    | true => exact ⟨fun hh => absurd hh (by decide), fun _ => no _ (by rw [if_pos hb])⟩
theorem krem2 : ∀ n : Nat, n < 121 → (kirem ((n : Int) - 60) 2 = 0 ↔ ((n : Int) - 60) % 2 = 0) := by decide +kernel
theorem c_sum {xs : KS} {p e : Int} (hx : (xs 0).1 = 64) (hO : Owed) : COk xs 92 [(0, 18, 0, 0), (1, 0, 0, p), (2, 0, 0, e)] (opSum xs p e) := by
  intro d S G I Q hS hI h
  have no : ∀ r, opSum xs p e S = (r, S) → Q r G I := fun r e => by rw [e] at h; exact h G I hS (hif.rf I)
  refine b_C_sum_0 (t_C_isPicture hS.1 ⟨fun h1 => no _ (by unfold opSum; rw [if_neg (fun hh => of_decide_eq_false (bi0 h1) ⟨hh.1, hh.2.1⟩)]), fun h1 => ?_⟩)
  have hp : 0 ≤ p ∧ p < S.1.length := of_decide_eq_true (bi1 h1)
  have h12 := hS.1.2.1
  obtain ⟨i, rfl⟩ : ∃ i : Nat, p = i := ⟨p.toNat, by omega⟩
  have hi : i < S.1.length := by omega
  refine ⟨fun h2 => no _ (by unfold opSum; rw [if_neg (by omega)]), fun h2 => ⟨fun h3 => ?_, fun h3 => no _ (by unfold opSum; rw [if_neg (by omega)])⟩⟩
  have zero : ¬ (-42 ≤ e ∧ e ≤ 42 ∧ e % 2 = 0) → Q 0 G I := fun hn => no _ (by unfold opSum; rw [if_pos ⟨hp.1, hp.2, h2, h3⟩, if_neg hn])
  refine ⟨fun h4 => zero (by omega), fun h4 => ⟨fun h5 => zero (by omega), fun h5 => ⟨by omega, fun h6 => ⟨by omega, ?_⟩, fun h6 => zero ?_⟩⟩⟩
  · have hk := (krem2 (e + 60).toNat (by omega))
    rw [show (((e + 60).toNat : Nat) : Int) - 60 = e by omega] at hk
    have h6 := hk.mp h6
    refine t_C_sumAt hx hS.1 hi (hI.rg hO i hi) (fun J hSJ hV hf => ⟨by omega, ?_⟩)
    have ek : kidiv (w32 (e + 42)) 2 = (((e + 42) / 2).toNat : Int) := by
      rw [w32_id (by omega) (by omega)]
      have := kidiv_n (a := (e + 42).toNat) (b := 2) (by omega) (by omega) (by omega)
      rw [show (((e + 42).toNat : Nat) : Int) = e + 42 by omega, show ((2 : Nat) : Int) = 2 from rfl] at this
      rw [this]; omega
    rw [ek, hV _ (by omega)]
    refine ⟨by omega, ?_⟩
    have h := h G J
    unfold opSum at h
    rw [if_pos ⟨hp.1, hp.2, h2, h3⟩, if_pos ⟨h4, h5, h6⟩] at h
    exact h (hS.sf hf.sf hSJ) hf.sf.hi
  · intro hh
    have hk := (krem2 (e + 60).toNat (by omega))
    rw [show (((e + 60).toNat : Nat) : Int) - 60 = e by omega] at hk
    exact h6 (hk.mpr hh.2.2)
theorem k100 {pq : Int} (h : 0 ≤ pq) (h2 : pq < 2147483648) : kidiv pq 100 = pq / 100 ∧ kirem pq 100 = pq % 100 := by
  have a := kidiv_n (a := pq.toNat) (b := 100) (by omega) (by omega) (by omega)
  have b := kirem_n (a := pq.toNat) (b := 100) (by omega) (by omega) (by omega)
  rw [show ((pq.toNat : Nat) : Int) = pq by omega, show ((100 : Nat) : Int) = 100 from rfl] at a b
  omega
theorem k10 {v : Int} (h : 0 ≤ v) (h2 : v < 2147483648) : kidiv v 10 = v / 10 ∧ kirem v 10 = v % 10 := by
  have a := kidiv_n (a := v.toNat) (b := 10) (by omega) (by omega) (by omega)
  have b := kirem_n (a := v.toNat) (b := 10) (by omega) (by omega) (by omega)
  rw [show ((v.toNat : Nat) : Int) = v by omega, show ((10 : Nat) : Int) = 10 from rfl] at a b
  omega
theorem t_C_arePictures {xs : KS} {d : Nat} {pq : Int} {ps : List Pic} {G : KG} {I : KI} {Q : KQ} (hq : pq < 2147483648) (hS : CPs xs ps I) (h : Q (bi (decide (0 ≤ pq ∧ pq / 100 < ps.length ∧ pq % 100 < ps.length))) G I) : kWP xs true (d + 1) 0 0 121 0 [(0, 18, 0, 0), (1, 0, 0, pq)] [] G I Q := by
  refine b_C_arePictures_0 ⟨fun h1 => ?_, fun h1 => ⟨by omega, ?_⟩⟩
  · rw [decide_eq_false (by omega)] at h; exact h
  · rw [(k100 h1 hq).1, (k100 h1 hq).2]
    refine t_C_isPicture hS ⟨fun h2 => ?_, fun h2 => ⟨by omega, t_C_isPicture hS ⟨fun h3 => ?_, fun h3 => ?_⟩⟩⟩
    · have h2 := of_decide_eq_false (bi0 h2)
      rw [decide_eq_false (by omega)] at h; exact h
    · have h3 := of_decide_eq_false (bi0 h3)
      rw [decide_eq_false (by omega)] at h; exact h
    · have h2 := of_decide_eq_true (bi1 h2)
      have h3 := of_decide_eq_true (bi1 h3)
      rw [decide_eq_true (by omega)] at h; exact h
theorem c_alike {xs : KS} {pq : Int} (hq : pq < 2147483648) (hx : (xs 0).1 = 64) (hO : Owed) : COk xs 93 [(0, 18, 0, 0), (1, 0, 0, pq)] (opAlike xs pq) := by
  intro d S G I Q hS hI h
  refine b_C_alike_0 (t_C_arePictures hq hS.1 ⟨fun h1 => ?_, fun h1 => ?_⟩)
  · have hp := of_decide_eq_true (bi1 h1)
    have h12 := hS.1.2.1
    rw [(k100 hp.1 hq).1, (k100 hp.1 hq).2]
    unfold opAlike at h
    rw [if_pos hp] at h
    have e1 : pg S.1 (pq / 100) = pget S.1 (pq / 100).toNat := rfl
    have e2 : pg S.1 (pq % 100) = pget S.1 (pq % 100).toNat := rfl
    rw [e1, e2] at h
    obtain ⟨i, hi⟩ : ∃ i : Nat, i = (pq / 100).toNat := ⟨_, rfl⟩
    obtain ⟨j, hj⟩ : ∃ j : Nat, j = (pq % 100).toNat := ⟨_, rfl⟩
    rw [← hi, ← hj] at h
    rw [show pq / 100 = (i : Int) by omega, show pq % 100 = (j : Int) by omega]
    refine ⟨by omega, by omega, t_C_sumAt hx hS.1 (i := i) (by omega) (hI.rg hO i (by omega)) (fun J1 hS1 hV1 hf1 => ⟨by omega, by omega, t_C_sumOf hx (hS1.2.2 j (by omega)).1 (by omega) (hI.rg hO j (by omega)) (hS1.2.2 j (by omega)).2 (fun J2 hV2 hf2 => ?_)⟩)⟩
    have hV1' : ∀ k : Nat, k < 43 → J2 (2 + (39 + 4 * (i : Int)) + 3) (k : Int) = pv xs (pget S.1 i) k := fun k hk => by
      by_cases hij : i = j
      · rw [hij]; exact hV2 k hk
      · rw [hf2 _ _ (by omega) (by omega) (by omega)]; exact hV1 k hk
    have hS2 : CPs xs S.1 J2 := by
      obtain ⟨h1, h2, h3⟩ := hS1
      refine ⟨by rw [hf2 _ _ (by omega) (by omega) (by omega)]; exact h1, h2, fun l hl => ⟨(h3 l hl).1.moved ⟨hf2 _ _ (by omega) (by omega) (by omega), hf2 _ _ (by omega) (by omega) (by omega), hf2 _ _ (by omega) (by omega) (by omega), hf2 _ _ (by omega) (by omega) (by omega)⟩ (fun k _ _ => hf2 _ _ (by omega) (by omega) (by omega)), fun h4 k hk => ?_⟩⟩
      by_cases hij : l = j
      · subst hij; exact hV2 k hk
      · rw [hf2 _ _ (by omega) (by omega) (by omega)] at h4 ⊢
        exact (h3 l hl).2 h4 k hk
    have hfr : ufr I J2 := hf1.tr (fun a k n1 n2 => hf2 a k n1 (by omega) (by omega))
    refine t_C_areAlike (V := pv xs (pget S.1 i)) (W := pv xs (pget S.1 j)) hV1' hV2 ?_
    have h := h G J2 (hS.sf hfr.sf hS2) hfr.sf.hi
    cases hb : eqV (pv xs (pget S.1 i)) (pv xs (pget S.1 j)) with
    | false => rw [hb] at h; exact ⟨fun _ => h, fun hh => absurd rfl hh⟩
    | true => rw [hb] at h; exact ⟨fun hh => absurd hh (by decide), fun _ => h⟩
  · unfold opAlike at h
    rw [if_neg (of_decide_eq_false (bi0 h1))] at h
    exact h G I hS (hif.rf I)
