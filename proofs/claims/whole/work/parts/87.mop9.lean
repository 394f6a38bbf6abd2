/-! THE MODEL'S CALLS: hidden ones -/
def lv (s : List Int) : Nat → Int := fun k => s.getD k 0
def MUn (l : List (List Int)) (I : KI) : Prop := l.length ≤ 128 ∧ (∀ s ∈ l, s.length = 43) ∧ ∀ i e : Nat, i < l.length → e < 121 → I 122 ((121 * i + e : Nat) : Int) = vx (lv (l.getD i [])) e
theorem lv_eq {s t : List Int} (hs : s.length = 43) (ht : t.length = 43) (h : ∀ e, e < 121 → vx (lv s) e = vx (lv t) e) : s = t :=
  lst43 hs ht (fun k hk => by
    have := h (18 + 2 * k) (by omega)
    rw [vx_at _ hk, vx_at _ hk] at this
    exact this)
theorem getD_memL {l : List (List Int)} {i : Nat} (h : i < l.length) : l.getD i [] ∈ l := by
  rw [List.getD_eq_getElem?_getD, List.getElem?_eq_getElem h]
  exact List.getElem_mem h
theorem a121 {a e : Nat} (ha : a < 128) (he : e < 121) : w32 ((w32 (121 * (a : Int))) + (e : Int)) = ((121 * a + e : Nat) : Int) := by
  rw [w32_id (x := 121 * (a : Int)) (by omega) (by omega), w32_id (by omega) (by omega)]; omega
theorem t_M_isMetSum {xs : KS} {d : Nat} {l : List (List Int)} {s : List Int} {G : KG} {I : KI} {Q : KQ} (hU : MUn l I) (hs : s.length = 43) (hV : MCf 113 (lv s) I) (h : Q (bi (decide (s ∈ l))) G I) : kWP xs true (d) 0 0 216 0 [(0, 19, 0, 101), (1, 0, 0, (l.length : Int))] [] G I Q := by
  obtain ⟨u1, u2, u3⟩ := hU
  refine b_M_isMetSum_0 ?_
  refine loop_up (n := l.length) (W := fun i => (∀ j, j < i → l.getD j [] ≠ s) → kWP xs true (d) 0 0 216 2 [(0, 19, 0, 101), (1, 0, 0, (l.length : Int)), (2, 0, 0, (i : Int))] [] G I Q) ?_ ?_ (Nat.zero_le _) (fun i hi => absurd hi (Nat.not_lt_zero i))
  · intro hl
    refine b_M_isMetSum_2 ⟨fun _ => ?_, fun hh => by omega⟩
    rw [decide_eq_false (fun hm => by
      obtain ⟨i, hi, e⟩ := List.mem_iff_getElem.mp hm
      refine hl i hi ?_
      rw [List.getD_eq_getElem?_getD, List.getElem?_eq_getElem hi]
      exact e)] at h
    exact h
  · intro i hi ih hl
    have hsi := u2 _ (getD_memL hi)
    refine b_M_isMetSum_2 ⟨fun hh => by omega, fun _ => ?_⟩
    have fail : ∀ e : Nat, l.getD i [] ≠ s → kWP xs true (d) 0 0 216 12 [(0, 19, 0, 101), (1, 0, 0, (l.length : Int)), (2, 0, 0, (i : Int)), (3, 0, 0, 0), (4, 0, 0, (e : Int))] [] G I Q := fun e hne => by
      have ih := ih (all_step (p := fun j => l.getD j [] ≠ s) hl hne)
      refine b_M_isMetSum_12 ⟨fun _ => ⟨fun _ => ?_, fun hh => absurd rfl hh⟩, fun _ => ⟨fun _ => ⟨fun _ => ?_, fun hh => absurd rfl hh⟩, fun hh => absurd rfl hh⟩⟩
      · rw [w32_inc (by omega)]; exact ih
      · rw [w32_inc (by omega)]; exact ih
    refine loop_up (n := 121) (W := fun e => (∀ j, j < e → vx (lv (l.getD i [])) j = vx (lv s) j) → kWP xs true (d) 0 0 216 12 [(0, 19, 0, 101), (1, 0, 0, (l.length : Int)), (2, 0, 0, (i : Int)), (3, 0, 0, 1), (4, 0, 0, (e : Int))] [] G I Q) ?_ ?_ (Nat.zero_le _) (fun i hi => absurd hi (Nat.not_lt_zero i))
    · intro he
      have hes := lv_eq hsi hs he
      refine b_M_isMetSum_12 ⟨fun _ => ⟨fun hh => absurd hh (by decide), fun _ => ?_⟩, fun hh => by omega⟩
      rw [decide_eq_true (by rw [← hes]; exact getD_memL hi)] at h
      exact h
    · intro e he ihe hle
      refine b_M_isMetSum_12 ⟨fun hh => by omega, fun _ => ⟨fun hh => absurd hh (by decide), fun _ => ?_⟩⟩
      rw [a121 (by omega) he, u3 i e hi he, hV e he, w32_inc (k := e) (by omega)]
      exact ⟨by omega, by omega, fun hne => fail _ (fun hh => hne (by rw [hh])), fun heq => ihe (all_step hle heq)⟩
theorem unl_len {l : List (List Int)} {s : List Int} (h : l.length < 128) : unl l s = if s ∈ l then l else l ++ [s] := by
  unfold unl
  rw [if_pos h]
theorem unA_len {xs : KS} {P : Pic} {h : Nat} : ∀ j, (unA xs P h j).length ≤ j
  | 0 => Nat.le_refl 0
  | j + 1 => by
    have := unA_len (xs := xs) (P := P) (h := h) j
    unfold unA
    split
    · unfold unl
      split
      · omega
      · split
        · rw [List.length_append, List.length_singleton]; omega
        · omega
    · omega
theorem sub_le {j h : Nat} (hs : sub j h = true) : j ≤ h := by
  have := of_decide_eq_true hs
  rw [← this]
  exact Nat.and_le_right
theorem plA_hi {xs : KS} {P : Pic} {h : Nat} : ∀ u, plA xs P h (h + 1 + u) = plA xs P h (h + 1)
  | 0 => rfl
  | u + 1 => by
    show plA xs P h ((h + 1 + u) + 1) = _
    have hn : ¬ sub (h + 1 + u) h = true := fun hs => by have := sub_le hs; omega
    rw [← plA_hi u]
    show plA xs P h (h + 1 + u) + (if sub (h + 1 + u) h = true ∧ isPl (val xs P (plm P.2 ^^^ (h + 1 + u))) = true then 1 else 0) = _
    rw [if_neg (fun hh => hn hh.1)]; rfl
theorem unA_hi {xs : KS} {P : Pic} {h : Nat} : ∀ u, unA xs P h (h + 1 + u) = unA xs P h (h + 1)
  | 0 => rfl
  | u + 1 => by
    show unA xs P h ((h + 1 + u) + 1) = _
    have hn : ¬ sub (h + 1 + u) h = true := fun hs => by have := sub_le hs; omega
    rw [← unA_hi u]
    show (if sub (h + 1 + u) h = true then unl (unA xs P h (h + 1 + u)) (vL (val xs P (plm P.2 ^^^ (h + 1 + u)))) else unA xs P h (h + 1 + u)) = _
    rw [if_neg hn]
theorem vx_vL (V : Nat → Int) (e : Nat) : vx (lv (vL V)) e = vx V e := by
  unfold vx
  split
  · exact vL_at V (by omega)
  · rfl
theorem m_hidden {xs : KS} {p b what : Int} (hb31 : b < 2147483648) (hM : OwedM xs) : MOk xs 217 [(0, 19, 0, 101), (1, 0, 0, p), (2, 0, 0, b), (3, 0, 0, what)] (opHidden xs p b what) := by
  intro d S G I Q hS hI h
  have no : ∀ r J, mscr I J → opHidden xs p b what S = (r, S) → Q r G J := fun r J hm e => by rw [e] at h; exact h G J (hS.ms hm) hm.lo
  refine b_M_hidden_0 (t_M_isPicture hS.1.1 hS.1.2.1 ⟨fun h1 => no _ _ (mscr.rf I) (by unfold opHidden; rw [if_neg (fun hh => of_decide_eq_false (bi0 h1) ⟨hh.1, hh.2.1⟩)]), fun h1 => ⟨fun h2 => no _ _ (mscr.rf I) (by unfold opHidden; rw [if_neg (by omega)]), fun h2 => ?_⟩⟩)
  have hp : 0 ≤ p ∧ p < S.1.length := of_decide_eq_true (bi1 h1)
  have h12 := hS.1.2.1
  obtain ⟨i, rfl⟩ : ∃ i : Nat, p = i := ⟨p.toNat, by omega⟩
  obtain ⟨hb, rfl⟩ : ∃ hb : Nat, b = hb := ⟨b.toNat, by omega⟩
  have hi : i < S.1.length := by omega
  have hok := hI.ok i hi
  have an := (hS.1.2.2 i hi).2.2.1
  unfold opHidden at no
  rw [show pg S.1 (i : Int) = pget S.1 i from rfl] at no
  have h7 := pw7 hok.1
  have hn7 := hok.1
  have hpos := pw_pos (pget S.1 i).2.length
  refine ⟨by omega, ?_⟩
  rw [an, kishr_n (by omega) (by omega), Nat.shiftRight_eq_div_pow]
  have hdiv : hb / 2 ^ (pget S.1 i).2.length = 0 ↔ hb < 2 ^ (pget S.1 i).2.length := Nat.div_eq_zero_iff_lt hpos
  refine ⟨fun h3 => no _ _ (mscr.rf I) (by rw [if_neg (fun hh => h3 (by rw [hdiv.mpr (by omega)]; rfl))]), fun h3 => t_M_within ⟨fun h4 => ?_, fun h4 => no _ _ (mscr.rf I) (by rw [if_neg (fun hh => of_decide_eq_false (bi0 h4) ⟨hh.2.2.1, hh.2.2.2.1⟩)])⟩⟩
  have h3 := hdiv.mp (by omega)
  have h4 := of_decide_eq_true (bi1 h4)
  rw [if_pos ⟨hp.1, hp.2, h4.1, h4.2, by omega, by omega⟩, show ((hb : Int)).toNat = hb from rfl] at no
  simp only at no
  have eP : plA xs (pget S.1 i) hb (2 ^ (pget S.1 i).2.length) = plA xs (pget S.1 i) hb (hb + 1) := by
    rw [show 2 ^ (pget S.1 i).2.length = hb + 1 + (2 ^ (pget S.1 i).2.length - (hb + 1)) by omega, plA_hi]
  have eU : unA xs (pget S.1 i) hb (2 ^ (pget S.1 i).2.length) = unA xs (pget S.1 i) hb (hb + 1) := by
    rw [show 2 ^ (pget S.1 i).2.length = hb + 1 + (2 ^ (pget S.1 i).2.length - (hb + 1)) by omega, unA_hi]
  rw [eP, eU] at no
  refine loop_up (n := hb + 1) (W := fun j => ∀ J : KI, MUn (unA xs (pget S.1 i) hb j) J → mscr I J → kWP xs true (d + 80) 0 0 217 44 [(0, 19, 0, 101), (1, 0, 0, (i : Int)), (2, 0, 0, (hb : Int)), (3, 0, 0, what), (4, 0, 0, (plA xs (pget S.1 i) hb j : Int)), (5, 0, 0, ((unA xs (pget S.1 i) hb j).length : Int)), (6, 0, 0, (j : Int))] [] G J Q) ?_ ?_ (Nat.zero_le _) I ⟨by simp [unA], by simp [unA], fun i e hi => absurd hi (Nat.not_lt_zero i)⟩ (mscr.rf I)
  · intro J _ hm
    refine b_M_hidden_44 ⟨fun _ => ⟨fun w => no _ _ hm (by rw [if_neg w]), fun w => no _ _ hm (by rw [if_pos w])⟩, fun hh => by omega⟩
  · intro j hj ih J hU hm
    have hA := plA_le (xs := xs) (P := pget S.1 i) (h := hb) j
    have hL := unA_len (xs := xs) (P := pget S.1 i) (h := hb) j
    have eA : plA xs (pget S.1 i) hb (j + 1) = plA xs (pget S.1 i) hb j + (if sub j hb = true ∧ isPl (val xs (pget S.1 i) (plm (pget S.1 i).2 ^^^ j)) = true then 1 else 0) := rfl
    have eB : unA xs (pget S.1 i) hb (j + 1) = if sub j hb = true then unl (unA xs (pget S.1 i) hb j) (vL (val xs (pget S.1 i) (plm (pget S.1 i).2 ^^^ j))) else unA xs (pget S.1 i) hb j := rfl
    refine b_M_hidden_44 ⟨fun hh => by omega, fun _ => ⟨fun h5 => ?_, fun h5 => ?_⟩⟩
    · have hs := (sub_k j (by omega) hb (by omega)).mp h5
      rw [if_pos hs, unl_len (by omega)] at eB
      refine t_M_takesChanged hM (hS.1.ms hm) hi hok (by omega) (fun J1 hV hf1 => t_M_isPlain hV ?_)
      have hm1 : mscr I J1 := hm.tr (fun a k n1 n2 => hf1 a k (by omega) (by omega) (by omega))
      have hU1 : MUn (unA xs (pget S.1 i) hb j) J1 := ⟨hU.1, hU.2.1, fun a e ha he => by rw [hf1 _ _ (by omega) (by omega) (by omega)]; exact hU.2.2 a e ha he⟩
      generalize hVV : val xs (pget S.1 i) (plm (pget S.1 i).2 ^^^ j) = V at *
      have hV2 : MCf 113 (lv (vL V)) J1 := fun e he => by rw [vx_vL]; exact hV e he
      -- what is met, and what is new
      have rest : ∀ A : Nat, plA xs (pget S.1 i) hb (j + 1) = A → (vL V ∈ unA xs (pget S.1 i) hb j → kWP xs true (d + 80) 0 0 217 44 [(0, 19, 0, 101), (1, 0, 0, (i : Int)), (2, 0, 0, (hb : Int)), (3, 0, 0, what), (4, 0, 0, (A : Int)), (5, 0, 0, ((unA xs (pget S.1 i) hb j).length : Int)), (6, 0, 0, w32 ((j : Int) + 1))] [] G J1 Q) ∧ (vL V ∉ unA xs (pget S.1 i) hb j → kWP xs true (d + 80) 0 0 217 98 [(0, 19, 0, 101), (1, 0, 0, (i : Int)), (2, 0, 0, (hb : Int)), (3, 0, 0, what), (4, 0, 0, (A : Int)), (5, 0, 0, ((unA xs (pget S.1 i) hb j).length : Int)), (6, 0, 0, (j : Int)), (7, 0, 0, 0)] [] G J1 Q) := fun A eA2 => by
        rw [w32_inc (by omega)]
        refine ⟨fun hin => ?_, fun hni => ?_⟩
        · rw [if_pos hin] at eB
          have ih := ih J1 (by rw [eB]; exact hU1) hm1
          rw [eB, eA2] at ih
          exact ih
        · rw [if_neg hni] at eB
          rw [eA2] at ih
          generalize unA xs (pget S.1 i) hb (j + 1) = U2 at *
          subst eB
          rw [List.length_append, List.length_singleton] at ih
          have hv43 := vL_len V
          generalize hUU : unA xs (pget S.1 i) hb j = U at *
          refine loop_up (n := 121) (W := fun e => ∀ J2 : KI, MCf 113 V J2 → MUn U J2 → (∀ x : Nat, x < e → J2 122 ((121 * U.length + x : Nat) : Int) = vx V x) → mscr I J2 → kWP xs true (d + 80) 0 0 217 98 [(0, 19, 0, 101), (1, 0, 0, (i : Int)), (2, 0, 0, (hb : Int)), (3, 0, 0, what), (4, 0, 0, (A : Int)), (5, 0, 0, (U.length : Int)), (6, 0, 0, (j : Int)), (7, 0, 0, (e : Int))] [] G J2 Q) ?_ ?_ (Nat.zero_le _) J1 hV hU1 (fun x hx => absurd hx (Nat.not_lt_zero x)) hm1
          · intro J2 _ hU2 hx hm2
            refine b_M_hidden_98 ⟨fun _ => ?_, fun hh => by omega⟩
            rw [w32_inc (k := U.length) (by omega), w32_inc (k := j) (by omega)]
            refine ih J2 ⟨by rw [List.length_append, List.length_singleton]; omega, fun t ht => ?_, fun a e ha he => ?_⟩ hm2
            · rcases List.mem_append.mp ht with h1 | h1
              · exact hU2.2.1 t h1
              · rw [List.mem_singleton.mp h1]; exact hv43
            · rw [List.length_append, List.length_singleton] at ha
              by_cases hae : a = U.length
              · rw [hae, hx e he, List.getD_eq_getElem?_getD, List.getElem?_append_right (Nat.le_refl _), Nat.sub_self]
                exact (vx_vL V e).symm
              · rw [hU2.2.2 a e (by omega) he, List.getD_eq_getElem?_getD, List.getD_eq_getElem?_getD, List.getElem?_append_left (by omega)]
          · intro e he ihe J2 hV3 hU2 hx hm2
            refine b_M_hidden_98 ⟨fun hh => by omega, fun _ => ?_⟩
            rw [a121 (by omega) he, hV3 e he, w32_inc (k := e) (by omega)]
            refine ⟨by omega, by omega, fun J3 e3 => ihe J3 (fun x hx2 => by rw [e3, kst_n (by omega)]; exact hV3 x hx2) ⟨hU2.1, hU2.2.1, fun a x ha hx2 => by rw [e3, kst_n (by omega)]; exact hU2.2.2 a x ha hx2⟩ (fun x hx2 => ?_) (hm2.tr (fun a k n1 n2 => by rw [e3, kst_n (by omega)]))⟩
            by_cases hxe : x = e
            · rw [hxe, e3, kst_s]
            · rw [e3, kst_n (by omega)]; exact hx x (by omega)
      have both : ∀ A : Nat, plA xs (pget S.1 i) hb (j + 1) = A → kWP xs true (d + 79) 0 0 216 0 [(0, 19, 0, 101), (1, 0, 0, ((unA xs (pget S.1 i) hb j).length : Int))] [] G J1 (fun r3 G3 I3 => (r3 ≠ 0 → kWP xs true (d + 80) 0 0 217 44 [(0, 19, 0, 101), (1, 0, 0, (i : Int)), (2, 0, 0, (hb : Int)), (3, 0, 0, what), (4, 0, 0, (A : Int)), (5, 0, 0, ((unA xs (pget S.1 i) hb j).length : Int)), (6, 0, 0, w32 ((j : Int) + 1))] [] G3 I3 Q) ∧ (r3 = 0 → kWP xs true (d + 80) 0 0 217 98 [(0, 19, 0, 101), (1, 0, 0, (i : Int)), (2, 0, 0, (hb : Int)), (3, 0, 0, what), (4, 0, 0, (A : Int)), (5, 0, 0, ((unA xs (pget S.1 i) hb j).length : Int)), (6, 0, 0, (j : Int)), (7, 0, 0, 0)] [] G3 I3 Q)) := fun A eA2 =>
        t_M_isMetSum hU1 (vL_len V) hV2 ⟨fun hh => (rest A eA2).1 (of_decide_eq_true (bi1 hh)), fun hh => (rest A eA2).2 (of_decide_eq_false (bi0 hh))⟩
      refine ⟨fun h6 => ?_, fun h6 => ?_⟩
      · rw [w32_id (by omega) (by omega), Int.add_zero]
        exact both _ (by rw [eA, if_neg (fun hh => by rw [bi0 h6] at hh; exact absurd hh.2 (by decide))]; rfl)
      · rw [w32_inc (k := plA xs (pget S.1 i) hb j) (by omega)]
        exact both _ (by rw [eA, if_pos ⟨hs, bi1 h6⟩])
    · have hs : ¬ sub j hb = true := fun hh => h5 ((sub_k j (by omega) hb (by omega)).mpr hh)
      rw [if_neg hs] at eB
      rw [if_neg (fun hh => hs hh.1), Nat.add_zero] at eA
      rw [w32_inc (by omega)]
      have ih := ih J (by rw [eB]; exact hU) hm
      rw [eA, eB] at ih
      exact ih
