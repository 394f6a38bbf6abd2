/-! THE MODEL'S CALLS: tape, lies, acts -/
theorem RRep.tape {S : St} {T : List Int} {I J : KI} (h : RRep S I) (hf : ∀ a k, ¬ (a = 101 ∧ (k = 5 ∨ k = 17 ∨ (20 ≤ k ∧ k ≤ 24) ∨ (27 ≤ k ∧ k ≤ 30) ∨ k = 35 ∨ k = 36 ∨ k = 41 ∨ k = 42)) → ¬ ((106 ≤ a ∧ a ≤ 116) ∨ (118 ≤ a ∧ a ≤ 120) ∨ a = 122 ∨ a = 128) → J a k = I a k) (hT : MTp T J) : RRep (S.1, T, S.2.2) J := by
  obtain ⟨h1, _, h3, h4, h5, h6⟩ := h
  exact ⟨h1.fr (fun a k hk => hf _ _ (by omega) (by omega)), hT, h3.fr (fun a k hk => hf _ _ (by omega) (by omega)), h4.fr (fun a k hk => hf _ _ (by omega) (by omega)), h5.fr (fun a k hk => hf _ _ (by omega) (by omega)), h6.fr (fun a k _ _ => hf _ _ (by omega) (by omega))⟩
theorem kand255 {x : Int} (h1 : -2147483648 ≤ x) (h2 : x < 2147483648) : kiand x 255 = x % 256 := by
  unfold kiand
  show ((Int32.ofInt x &&& Int32.ofInt 255).toBitVec).toInt = _
  rw [Int32.toBitVec_and]
  have e : (Int32.ofInt 255).toBitVec = 255#32 := by decide
  rw [e, Int32.toBitVec_ofInt]
  have hlt : (BitVec.ofInt 32 x &&& 255#32).toNat = (x % 4294967296).toNat % 256 := by
    rw [BitVec.toNat_and, BitVec.toNat_ofInt]
    have := Nat.and_two_pow_sub_one_eq_mod (x % ((2 ^ 32 : Nat) : Int)).toNat 8
    exact this
  rw [BitVec.toInt_eq_toNat_of_lt, hlt]
  · omega
  · rw [hlt]; omega
theorem kishr_b (a b : Int) : -2147483648 ≤ kishr a b ∧ kishr a b < 2147483648 := by
  unfold kishr
  exact ⟨i32_lo _, i32_hi _⟩
theorem getD_appL {T U : List Int} {k : Nat} (h : k < T.length) : (T ++ U).getD k 0 = T.getD k 0 := by
  rw [List.getD_eq_getElem?_getD, List.getElem?_append_left h, ← List.getD_eq_getElem?_getD]
theorem getD_fdB {T : List Int} {v : Int} {n j : Nat} (h : j < n) : (T ++ fdB v n).getD (T.length + j) 0 = kishr v (8 * (j : Int)) % 256 := by
  unfold fdB
  rw [List.getD_eq_getElem?_getD, List.getElem?_append_right (by omega), show T.length + j - T.length = j by omega, List.getElem?_map, List.getElem?_range h]
  rfl
theorem m_feed {xs : KS} {n v : Int} : MOk xs 172 [(0, 19, 0, 101), (1, 0, 0, n), (2, 0, 0, v)] (opFeed n v) := by
  intro d S G I Q hS hI h
  have no : ∀ r, opFeed n v S = (r, S) → Q r G I := fun r e => by rw [e] at h; exact h G I hS (lof.rf I)
  have hT := hS.2.1
  refine b_M_feed_0 (t_M_within ⟨fun h1 => ?_, fun h1 => no _ (by unfold opFeed; rw [if_pos (by have := of_decide_eq_false (bi0 h1); omega)])⟩)
  have h1 := of_decide_eq_true (bi1 h1)
  have hn : ¬ (n < 1 ∨ 4 < n) := by omega
  have hl := hT.2.1
  rw [hT.1, w32_id (x := (S.2.1.length : Int) + n) (by omega) (by omega)]
  refine ⟨fun h2 => ?_, fun h2 => no _ (by unfold opFeed; rw [if_neg hn, if_pos (by omega)])⟩
  obtain ⟨N, rfl⟩ : ∃ N : Nat, n = N := ⟨n.toNat, by omega⟩
  have e : opFeed (N : Int) v S = ((S.2.1.length : Int) + N, (S.1, S.2.1 ++ fdB v N, S.2.2)) := by unfold opFeed; rw [if_neg hn, if_neg (by omega)]; rfl
  rw [e] at h
  refine loop_up (n := N) (W := fun j => ∀ J : KI, J 101 17 = (S.2.1.length : Int) + (j : Int) → (∀ a k, ¬ (a = 101 ∧ k = 17) → a ≠ 116 → J a k = I a k) → (∀ k : Nat, k < S.2.1.length + j → J 116 (k : Int) = (S.2.1 ++ fdB v N).getD k 0) → kWP xs true (d + 80) 0 0 172 30 [(0, 19, 0, 101), (1, 0, 0, (N : Int)), (2, 0, 0, v), (3, 0, 0, (j : Int))] [] G J Q) ?_ ?_ (Nat.zero_le _) I (by rw [hT.1]; omega) (fun _ _ _ _ => rfl) (fun k hk => by rw [getD_appL (by omega)]; exact hT.2.2 k (by omega))
  · intro J g17 hf hJ
    refine b_M_feed_30 ⟨fun _ => ?_, fun hh => by omega⟩
    rw [g17]
    refine h G J (hS.tape (fun a k n1 n2 => hf a k (by omega) (by omega)) ⟨?_, ?_, fun k hk => ?_⟩) (fun a k hk => hf a k (by omega) (by omega))
    · rw [g17, List.length_append, fdB_len]; omega
    · rw [List.length_append, fdB_len]; omega
    · rw [List.length_append, fdB_len] at hk
      exact hJ k hk
  · intro j hj ih J g17 hf hJ
    refine b_M_feed_30 ⟨fun hh => by omega, fun _ => ?_⟩
    have hb := kishr_b v (8 * (j : Int))
    rw [g17, w32_id (x := 8 * (j : Int)) (by omega) (by omega), kand255 hb.1 hb.2]
    refine ⟨by omega, fun J1 e1 J2 e2 => ?_⟩
    rw [e1, kst_n (by omega), g17, w32_id (by omega) (by omega)] at e2
    rw [w32_inc (by omega)]
    refine ih J2 (by rw [e2, kst_s]; omega) (fun a k n1 n2 => by rw [e2, kst_n (by omega), kst_n (by omega)]; exact hf a k n1 n2) (fun k hk => ?_)
    rw [e2, kst_n (by omega)]
    by_cases hk2 : k = S.2.1.length + j
    · subst hk2
      rw [getD_fdB hj, show ((S.2.1.length + j : Nat) : Int) = (S.2.1.length : Int) + (j : Int) by omega, kst_s]
    · rw [kst_n (by omega)]; exact hJ k (by omega)
theorem RRep.lies {S : St} {K tr : List Int} {I J : KI} (h : RRep S I) (hf : ∀ a k, ¬ (a = 101 ∧ (k = 37 ∨ k = 40 ∨ k = 41 ∨ k = 42)) → ¬ (a = 123 ∨ a = 124) → J a k = I a k) (hL : MLi K tr J) : RRep (S.1, S.2.1, S.2.2.1, S.2.2.2.1, (K, tr), S.2.2.2.2.2) J := by
  obtain ⟨h1, h2, h3, h4, _, h6⟩ := h
  exact ⟨h1.fr (fun a k hk => hf _ _ (by omega) (by omega)), h2.fr (fun a k hk => hf _ _ (by omega) (by omega)), h3.fr (fun a k hk => hf _ _ (by omega) (by omega)), h4.fr (fun a k hk => hf _ _ (by omega) (by omega)), hL, h6.fr (fun a k _ _ => hf _ _ (by omega) (by omega))⟩
theorem m_body {xs : KS} {k : Int} : MOk xs 225 [(0, 19, 0, 101), (1, 0, 0, k)] (opBody k) := by
  intro d S G I Q hS hI h
  have hL := hS.2.2.2.2.1
  unfold opBody at h
  refine b_M_body_0 (t_M_within ⟨fun h1 => ?_, fun h1 => ?_⟩)
  · have h1 := of_decide_eq_true (bi1 h1)
    have h50 := hL.2.1
    rw [if_pos (by omega)] at h
    rw [hL.1]
    refine ⟨fun h2 => ⟨by omega, fun J1 e1 J2 e2 => ?_⟩, fun h2 => ?_⟩
    · rw [if_pos (by omega)] at h
      rw [e1, kst_n (by omega), hL.1, w32_id (by omega) (by omega)] at e2
      have g : J2 101 37 = (S.2.2.2.2.1.1.length : Int) + 1 := by rw [e2, kst_s]
      rw [g, w32_id (by omega) (by omega), show (S.2.2.2.2.1.1.length : Int) + 1 - 1 = (S.2.2.2.2.1.1.length : Int) by omega]
      refine h G J2 (hS.lies (fun a i n1 n2 => by rw [e2, kst_n (by omega), kst_n (by omega)]) ⟨?_, ?_, fun i hi => ?_, ?_, fun i hi h24 => ?_⟩) (fun a i hi => by rw [e2, kst_n (by omega), kst_n (by omega)])
      · rw [g, List.length_append, List.length_singleton]; omega
      · rw [List.length_append, List.length_singleton]; omega
      · rw [List.length_append, List.length_singleton] at hi
        rw [getD_app1' hi, e2, kst_n (by omega)]
        by_cases hi2 : i = S.2.2.2.2.1.1.length
        · rw [if_pos hi2, hi2, kst_s]
        · rw [if_neg hi2, kst_n (by omega)]; exact hL.2.2.1 i (by omega)
      · rw [e2, kst_n (by omega), kst_n (by omega)]; exact hL.2.2.2.1
      · rw [e2, kst_n (by omega), kst_n (by omega)]; exact hL.2.2.2.2 i hi h24
    · rw [if_neg (by omega)] at h
      exact h G I hS (lof.rf I)
  · have h1 := of_decide_eq_false (bi0 h1)
    rw [if_neg (by omega)] at h
    exact h G I hS (lof.rf I)
theorem m_trace {xs : KS} {i : Int} : MOk xs 233 [(0, 19, 0, 101), (1, 0, 0, i)] (opTrace i) := by
  intro d S G I Q hS hI h
  have no : ∀ r, opTrace i S = (r, S) → Q r G I := fun r e => by rw [e] at h; exact h G I hS (lof.rf I)
  have hL := hS.2.2.2.2.1
  unfold opTrace at no
  refine b_M_trace_0 ?_
  rw [hL.2.2.2.1]
  refine ⟨fun h1 => no _ (by rw [if_neg (by omega)]), fun h1 => ⟨fun h2 => no _ (by rw [if_neg (by omega)]), fun h2 => ⟨fun h3 => no _ (by rw [if_neg (by omega)]), fun h3 => ⟨by omega, ?_⟩⟩⟩⟩
  obtain ⟨j, rfl⟩ : ∃ j : Nat, i = j := ⟨i.toNat, by omega⟩
  rw [hL.2.2.2.2 j (by omega) (by omega)]
  exact no _ (by rw [if_pos (by omega)]; rfl)
theorem m_count {xs : KS} {w : Int} : MOk xs 243 [(0, 19, 0, 101), (1, 0, 0, w)] (opCount w) := by
  intro d S G I Q hS hI h
  have no : ∀ r, opCount w S = (r, S) → Q r G I := fun r e => by rw [e] at h; exact h G I hS (lof.rf I)
  unfold opCount at no
  refine b_M_count_0 ?_
  rw [hS.1.1, hS.2.1.1, hS.2.2.2.1.1, hS.2.2.2.2.1.1, hS.2.2.2.2.1.2.2.2.1]
  refine ⟨fun h1 => no _ ?_, fun h1 => no _ ?_, fun h1 => no _ ?_, fun h1 => no _ ?_, fun h1 => no _ ?_, fun h1 => no _ ?_, fun h1 => no _ ?_, trivial⟩
  · rw [if_neg (by omega), if_neg (by omega), if_neg (by omega), if_neg (by omega), if_neg (by omega)]
  · rw [if_neg (by omega), if_neg (by omega), if_neg (by omega), if_neg (by omega), if_neg (by omega)]
  · rw [if_pos h1]
  · rw [if_neg (by omega), if_pos h1]
  · rw [if_neg (by omega), if_neg (by omega), if_pos h1]
  · rw [if_neg (by omega), if_neg (by omega), if_neg (by omega), if_pos h1]
  · rw [if_neg (by omega), if_neg (by omega), if_neg (by omega), if_neg (by omega), if_pos h1]
/-- while an act runs -/
def MAc (K tr : List Int) (num : Int) (kd : Nat) (I : KI) : Prop := MLi K tr I ∧ I 101 41 = (kd : Int) ∧ I 101 42 = num
def afr (I I' : KI) : Prop := ∀ a k, ¬ (a = 101 ∧ k = 40) → a ≠ 124 → I' a k = I a k
theorem afr.rf (I : KI) : afr I I := fun _ _ _ _ => rfl
theorem afr.tr {I J K : KI} (h : afr I J) (g : afr J K) : afr I K := fun a k h1 h2 => (g a k h1 h2).trans (h a k h1 h2)
theorem t_M_begins {xs : KS} {d kd : Nat} {b num : Int} {K tr : List Int} {G : KG} {I : KI} {Q : KQ} (hC : MAc K tr num kd I) (ht : tr.length < 1000) (h : ∀ I' : KI, MAc K (tr ++ [b]) num kd I' → afr I I' → Q 0 G I') : kWP xs true (d) 0 0 227 0 [(0, 19, 0, 101), (1, 0, 0, b)] [] G I Q := by
  obtain ⟨⟨c1, c2, c3, c4, c5⟩, c6, c7⟩ := hC
  have go : ∀ J : KI, J 101 40 = (tr.length : Int) + 1 → (∀ a k, ¬ (a = 101 ∧ k = 40) → ¬ (a = 124 ∧ k = (tr.length : Int)) → J a k = I a k) → (tr.length < 24 → J 124 (tr.length : Int) = b) → Q 0 G J := fun J g1 g2 g3 => by
    refine h J ⟨⟨by rw [g2 _ _ (by omega) (by omega)]; exact c1, c2, fun i hi => by rw [g2 _ _ (by omega) (by omega)]; exact c3 i hi, by rw [g1]; simp, fun i hi h24 => ?_⟩, by rw [g2 _ _ (by omega) (by omega)]; exact c6, by rw [g2 _ _ (by omega) (by omega)]; exact c7⟩ (fun a k n1 n2 => g2 a k n1 (by omega))
    rw [List.length_append, List.length_singleton] at hi
    rw [getD_app1' hi]
    by_cases hi2 : i = tr.length
    · rw [if_pos hi2, hi2]; exact g3 (by omega)
    · rw [if_neg hi2, g2 _ _ (by omega) (by omega)]; exact c5 i (by omega) h24
  refine b_M_begins_0 ?_
  rw [c4]
  refine ⟨fun h1 J1 e1 => go J1 ?_ (fun a k n1 _ => ?_) (fun h2 => by omega), fun h1 => ⟨by omega, fun J2 e2 J3 e3 => go J3 ?_ (fun a k n1 n2 => ?_) (fun _ => ?_)⟩⟩
  · rw [e1, kst_s, w32_id (by omega) (by omega)]
  · rw [e1, kst_n (by omega)]
  · rw [e3, kst_s, e2, kst_n (by omega), c4, w32_id (by omega) (by omega)]
  · rw [e3, kst_n (by omega), e2, kst_n (by omega)]
  · rw [e3, kst_n (by omega), e2, kst_s]
/-- an act's method of the model -/
def AsOk (xs : KS) (j d : Nat) (k : Nat) (num : Int) (kd : Nat) (V : Int → Int) (T : List Int) : Prop :=
  ∀ (x : Int) (K tr : List Int) (G : KG) (I : KI) (Q : KQ), MAc K tr num kd I → tr.length + T.length < 500 → (∀ I' : KI, MAc K (tr ++ T) num kd I' → afr I I' → Q (V x) G I') → kWP xs true d 0 0 j 0 [(0, 19, 0, 101), (1, 0, 0, (k : Int)), (2, 0, 0, x)] [] G I Q
theorem lt_app {tr : List Int} {b : Int} {m n : Nat} (h : tr.length + (m + 1) < n) : (tr ++ [b]).length + m < n := by rw [List.length_append, List.length_singleton]; omega
theorem as_lies0 {xs : KS} {d k kd : Nat} {num : Int} (h1 : k ≠ 1) (h4 : k ≠ 4) (h6 : k ≠ 6) : AsOk xs 228 (d + 1) k num kd (fun x => w32 (x + num)) [1] := by
  intro x K tr G I Q hC ht h
  refine b_M_liesAs_0 ⟨fun hh => by omega, fun _ => ⟨fun _ => ⟨fun _ => t_M_begins hC (by simp at ht; omega) (fun J hJ hf => ?_), fun hh => by omega⟩, fun hh => by omega⟩⟩
  rw [hJ.2.2]
  exact h J hJ hf
theorem as_lies {xs : KS} {d k kd : Nat} {num : Int} : AsOk xs 228 (d + 2) k num kd (lieV num k) (lieT k) := by
  intro x K tr G I Q hC ht h
  have hl := lieT_le k
  have sup : ∀ (b : Int) (Q' : KQ), lieT k = [b, 1] → (∀ I' : KI, MAc K (tr ++ [b, 1]) num kd I' → afr I I' → Q' (w32 (x + num)) G I') → kWP xs true (d + 1) 0 0 227 0 [(0, 19, 0, 101), (1, 0, 0, b)] [] G I (fun _ G1 I1 => kWP xs true (d + 1) 0 0 228 0 [(0, 19, 0, 101), (1, 0, 0, 0), (2, 0, 0, x)] [] G1 I1 Q') := fun b Q' e hq => by
    rw [e] at ht
    simp only [List.length_cons, List.length_nil] at ht
    refine t_M_begins hC (by omega) (fun J hJ hf => as_lies0 (k := 0) (d := d) (by omega) (by omega) (by omega) x K _ G J _ hJ (by simp only [len_app, List.length_cons, List.length_nil]; omega) (fun J2 hJ2 hf2 => hq J2 (by rw [List.append_assoc] at hJ2; exact hJ2) (hf.tr hf2)))
  by_cases c1 : k = 1 ∨ k = 4
  · have eV : lieV num k x = w32 (w32 (x + num) + 3) := by unfold lieV; rw [if_pos c1]
    have eT : lieT k = [20, 1] := by unfold lieT; rw [if_pos c1]
    rw [eV, eT] at h
    exact b_M_liesAs_0 ⟨fun _ => sup 20 _ eT h, fun h1 => ⟨fun h4 => by omega, fun _ => sup 20 _ eT h⟩⟩
  · by_cases c6 : k = 6
    · have eV : lieV num k x = w32 (w32 (x + num) * 2) := by unfold lieV; rw [if_neg c1, if_pos c6]
      have eT : lieT k = [70, 1] := by unfold lieT; rw [if_neg c1, if_pos c6]
      rw [eV, eT] at h
      exact b_M_liesAs_0 ⟨fun _ => by omega, fun h1 => ⟨fun h4 => ⟨fun hh => by omega, fun _ => sup 70 _ eT h⟩, fun _ => by omega⟩⟩
    · have eV : lieV num k = fun x => w32 (x + num) := by funext x; unfold lieV; rw [if_neg c1, if_neg c6]
      have eT : lieT k = [1] := by unfold lieT; rw [if_neg c1, if_neg c6]
      rw [eV, eT] at h
      rw [eT] at ht
      exact as_lies0 (d := d + 1) (by omega) (by omega) c6 x K tr G I Q hC ht h
theorem as_und0 {xs : KS} {d k kd : Nat} {num : Int} (h3 : k ≠ 3) (h5 : k ≠ 5) : AsOk xs 230 (d + 1) k num kd (fun x => kixor x num) [11] := by
  intro x K tr G I Q hC ht h
  refine b_M_undoesAs_0 ⟨fun _ => ⟨fun _ => t_M_begins hC (by simp at ht; omega) (fun J hJ hf => ?_), fun hh => by omega⟩, fun hh => by omega⟩
  rw [hJ.2.2]
  exact h J hJ hf
theorem as_undoes {xs : KS} {d k kd : Nat} {num : Int} : AsOk xs 230 (d + 3) k num kd (undV num kd k) (undT kd k) := by
  intro x K tr G I Q hC ht h
  have hl := lieT_le kd
  by_cases c3 : k = 3
  · have eV : undV num kd k x = w32 (kixor x num * 3) := by unfold undV; rw [if_pos c3]
    have eT : undT kd k = [40, 11] := by unfold undT; rw [if_pos c3]
    rw [eV, eT] at h
    rw [eT] at ht
    simp only [List.length_cons, List.length_nil] at ht
    refine b_M_undoesAs_0 ⟨fun hh => by omega, fun _ => t_M_begins hC (by omega) (fun J hJ hf => as_und0 (k := 2) (d := d + 1) (by omega) (by omega) x K _ G J _ hJ (by simp only [len_app, List.length_cons, List.length_nil]; omega) (fun J2 hJ2 hf2 => h J2 (by rw [List.append_assoc] at hJ2; exact hJ2) (hf.tr hf2)))⟩
  · by_cases c5 : k = 5
    · have eV : undV num kd k x = w32 (kixor x num - lieV num kd 2) := by unfold undV; rw [if_neg c3, if_pos c5]
      have eT : undT kd k = [60, 11] ++ lieT kd := by unfold undT; rw [if_neg c3, if_pos c5]
      rw [eV, eT] at h
      rw [eT, len_app] at ht
      simp only [List.length_cons, List.length_nil] at ht
      refine b_M_undoesAs_0 ⟨fun _ => ⟨fun hh => by omega, fun _ => t_M_begins hC (by omega) (fun J hJ hf => as_und0 (k := 0) (d := d + 1) (by omega) (by omega) x K _ G J _ hJ (by simp only [len_app, List.length_cons, List.length_nil]; omega) (fun J2 hJ2 hf2 => ?_))⟩, fun hh => by omega⟩
      rw [hJ2.2.1]
      exact as_lies (d := d) 2 K _ G J2 _ hJ2 (by simp only [len_app, List.length_cons, List.length_nil]; omega) (fun J3 hJ3 hf3 => h J3 (by simp only [List.append_assoc] at hJ3 ⊢; exact hJ3) ((hf.tr hf2).tr hf3))
    · have eV : undV num kd k = fun x => kixor x num := by funext x; unfold undV; rw [if_neg c3, if_neg c5]
      have eT : undT kd k = [11] := by unfold undT; rw [if_neg c3, if_neg c5]
      rw [eV, eT] at h
      rw [eT] at ht
      exact as_und0 (d := d + 2) c3 c5 x K tr G I Q hC ht h
theorem as_cro0 {xs : KS} {d k kd : Nat} {num : Int} (h3 : k ≠ 3) (h7 : k ≠ 7) (h2 : k ≠ 2) : AsOk xs 229 (d + 3) k num kd (fun x => w32 (lieV num kd x * 2)) ([10] ++ lieT kd) := by
  intro x K tr G I Q hC ht h
  simp only [len_app, List.length_cons, List.length_nil] at ht
  refine b_M_crossesAs_0 ⟨fun _ => ⟨fun _ => ⟨fun _ => t_M_begins hC (by omega) (fun J hJ hf => ?_), fun hh => by omega⟩, fun hh => by omega⟩, fun hh => by omega⟩
  rw [hJ.2.1]
  exact as_lies (d := d) x K _ G J _ hJ (by simp only [len_app, List.length_cons, List.length_nil]; omega) (fun J2 hJ2 hf2 => h J2 (by simp only [List.append_assoc] at hJ2 ⊢; exact hJ2) (hf.tr hf2))
theorem as_cro2 {xs : KS} {d k kd : Nat} {num : Int} (h2 : k = 2) : AsOk xs 229 (d + 4) k num kd (fun x => w32 (-(w32 (lieV num kd x * 2)))) ([30, 10] ++ lieT kd) := by
  intro x K tr G I Q hC ht h
  simp only [len_app, List.length_cons, List.length_nil] at ht
  refine b_M_crossesAs_0 ⟨fun _ => ⟨fun _ => ⟨fun hh => by omega, fun _ => t_M_begins hC (by omega) (fun J hJ hf => ?_)⟩, fun hh => by omega⟩, fun hh => by omega⟩
  exact as_cro0 (d := d) (k := 0) (by omega) (by omega) (by omega) x K _ G J _ hJ (by simp only [len_app, List.length_cons, List.length_nil]; omega) (fun J2 hJ2 hf2 => h J2 (by simp only [List.append_assoc] at hJ2 ⊢; exact hJ2) (hf.tr hf2))
theorem as_crosses {xs : KS} {d k kd : Nat} {num : Int} : AsOk xs 229 (d + 5) k num kd (croV num kd k) (croT kd k) := by
  intro x K tr G I Q hC ht h
  have hl := lieT_le kd
  have hu := undT_le kd kd
  by_cases c3 : k = 3
  · have eV : croV num kd k x = w32 (-(w32 (lieV num kd (w32 (x + 1)) * 2))) := by unfold croV; rw [if_pos c3]
    have eT : croT kd k = [41, 30, 10] ++ lieT kd := by unfold croT; rw [if_pos c3]
    rw [eV, eT] at h
    rw [eT] at ht
    simp only [len_app, List.length_cons, List.length_nil] at ht
    refine b_M_crossesAs_0 ⟨fun hh => by omega, fun _ => t_M_begins hC (by omega) (fun J hJ hf => as_cro2 (k := 2) (d := d) rfl _ K _ G J _ hJ (by simp only [len_app, List.length_cons, List.length_nil]; omega) (fun J2 hJ2 hf2 => h J2 (by simp only [List.append_assoc] at hJ2 ⊢; exact hJ2) (hf.tr hf2)))⟩
  · by_cases c7 : k = 7
    · have eV : croV num kd k x = w32 (w32 (-(w32 (lieV num kd x * 2))) + undV num kd kd 2) := by unfold croV; rw [if_neg c3, if_pos c7]
      have eT : croT kd k = [80, 30, 10] ++ lieT kd ++ undT kd kd := by unfold croT; rw [if_neg c3, if_pos c7]
      rw [eV, eT] at h
      rw [eT] at ht
      simp only [len_app, List.length_cons, List.length_nil] at ht
      refine b_M_crossesAs_0 ⟨fun _ => ⟨fun hh => by omega, fun _ => t_M_begins hC (by omega) (fun J hJ hf => as_cro2 (k := 2) (d := d) rfl _ K _ G J _ hJ (by simp only [len_app, List.length_cons, List.length_nil]; omega) (fun J2 hJ2 hf2 => ?_))⟩, fun hh => by omega⟩
      rw [hJ2.2.1]
      exact as_undoes (d := d + 1) 2 K _ G J2 _ hJ2 (by simp only [len_app, List.length_cons, List.length_nil]; omega) (fun J3 hJ3 hf3 => h J3 (by simp only [List.append_assoc] at hJ3 ⊢; exact hJ3) ((hf.tr hf2).tr hf3))
    · by_cases c2 : k = 2
      · have eV : croV num kd k = fun x => w32 (-(w32 (lieV num kd x * 2))) := by funext x; unfold croV; rw [if_neg c3, if_neg c7, if_pos c2]
        have eT : croT kd k = [30, 10] ++ lieT kd := by unfold croT; rw [if_neg c3, if_neg c7, if_pos c2]
        rw [eV, eT] at h
        rw [eT] at ht
        exact as_cro2 (d := d + 1) c2 x K tr G I Q hC ht h
      · have eV : croV num kd k = fun x => w32 (lieV num kd x * 2) := by funext x; unfold croV; rw [if_neg c3, if_neg c7, if_neg c2]
        have eT : croT kd k = [10] ++ lieT kd := by unfold croT; rw [if_neg c3, if_neg c7, if_neg c2]
        rw [eV, eT] at h
        rw [eT] at ht
        exact as_cro0 (d := d + 2) c3 c7 c2 x K tr G I Q hC ht h
theorem as_tel0 {xs : KS} {d k kd : Nat} {num : Int} (h4 : k ≠ 4) (h7 : k ≠ 7) : AsOk xs 231 (d + 6) k num kd (fun x => w32 (croV num kd kd x - undV num kd kd 1)) ([2] ++ croT kd kd ++ undT kd kd) := by
  intro x K tr G I Q hC ht h
  have hc := croT_le kd kd
  have hu := undT_le kd kd
  simp only [len_app, List.length_cons, List.length_nil] at ht
  refine b_M_tellsAs_0 ⟨fun _ => ⟨fun _ => t_M_begins hC (by omega) (fun J hJ hf => ?_), fun hh => by omega⟩, fun hh => by omega⟩
  rw [hJ.2.1]
  refine as_crosses (d := d) x K _ G J _ hJ (by simp only [len_app, List.length_cons, List.length_nil]; omega) (fun J2 hJ2 hf2 => ?_)
  rw [hJ2.2.1]
  exact as_undoes (d := d + 2) 1 K _ G J2 _ hJ2 (by simp only [len_app, List.length_cons, List.length_nil]; omega) (fun J3 hJ3 hf3 => h J3 (by simp only [List.append_assoc] at hJ3 ⊢; exact hJ3) ((hf.tr hf2).tr hf3))
theorem as_tells {xs : KS} {d k kd : Nat} {num : Int} : AsOk xs 231 (d + 7) k num kd (telV num kd k) (telT kd k) := by
  intro x K tr G I Q hC ht h
  have hc := croT_le kd kd
  have hu := undT_le kd kd
  by_cases c4 : k = 4
  · have eV : telV num kd k x = kixor (w32 (croV num kd kd x - undV num kd kd 1)) 5 := by unfold telV; simp only; rw [if_pos c4]
    have eT : telT kd k = [50] ++ ([2] ++ croT kd kd ++ undT kd kd) := by unfold telT; rw [if_pos c4]; simp only [List.append_assoc]
    rw [eV, eT] at h
    rw [eT] at ht
    simp only [len_app, List.length_cons, List.length_nil] at ht
    refine b_M_tellsAs_0 ⟨fun hh => by omega, fun _ => t_M_begins hC (by omega) (fun J hJ hf => as_tel0 (k := 1) (d := d) (by omega) (by omega) x K _ G J _ hJ (by simp only [len_app, List.length_cons, List.length_nil]; omega) (fun J2 hJ2 hf2 => h J2 (by simp only [List.append_assoc] at hJ2 ⊢; exact hJ2) (hf.tr hf2)))⟩
  · by_cases c7 : k = 7
    · have eV : telV num kd k x = w32 (w32 (croV num kd kd x - undV num kd kd 1) - 1) := by unfold telV; simp only; rw [if_neg c4, if_pos c7]
      have eT : telT kd k = [81] ++ ([2] ++ croT kd kd ++ undT kd kd) := by unfold telT; rw [if_neg c4, if_pos c7]; simp only [List.append_assoc]
      rw [eV, eT] at h
      rw [eT] at ht
      simp only [len_app, List.length_cons, List.length_nil] at ht
      refine b_M_tellsAs_0 ⟨fun _ => ⟨fun hh => by omega, fun _ => t_M_begins hC (by omega) (fun J hJ hf => as_tel0 (k := 2) (d := d) (by omega) (by omega) x K _ G J _ hJ (by simp only [len_app, List.length_cons, List.length_nil]; omega) (fun J2 hJ2 hf2 => h J2 (by simp only [List.append_assoc] at hJ2 ⊢; exact hJ2) (hf.tr hf2)))⟩, fun hh => by omega⟩
    · have eV : telV num kd k = fun x => w32 (croV num kd kd x - undV num kd kd 1) := by funext x; unfold telV; simp only; rw [if_neg c4, if_neg c7]
      have eT : telT kd k = [2] ++ croT kd kd ++ undT kd kd := by unfold telT; rw [if_neg c4, if_neg c7]; simp only [List.nil_append]
      rw [eV, eT] at h
      rw [eT] at ht
      exact as_tel0 (d := d + 1) c4 c7 x K tr G I Q hC ht h
theorem t_M_isBody {xs : KS} {d n : Nat} {b : Int} {G : KG} {I : KI} {Q : KQ} (hn : I 101 37 = (n : Int)) (h50 : n ≤ 50) (h : Q (bi (decide (0 ≤ b ∧ b < n))) G I) : kWP xs true (d + 1) 0 0 223 0 [(0, 19, 0, 101), (1, 0, 0, b)] [] G I Q := by
  refine b_M_isBody_0 (t_M_within (kzr_bi ?_))
  rw [hn, w32_id (by omega) (by omega)]
  have e : decide (0 ≤ b ∧ b ≤ (n : Int) - 1) = decide (0 ≤ b ∧ b < (n : Int)) := by
    by_cases hp : 0 ≤ b ∧ b < (n : Int)
    · rw [decide_eq_true hp, decide_eq_true (by omega)]
    · rw [decide_eq_false hp, decide_eq_false (by omega)]
  rw [e]; exact h
theorem m_act {xs : KS} {b act x : Int} : MOk xs 232 [(0, 19, 0, 101), (1, 0, 0, b), (2, 0, 0, act), (3, 0, 0, x)] (opAct b act x) := by
  intro d S G I Q hS hI h
  have hL := hS.2.2.2.2.1
  obtain ⟨c1, c2, c3, c4, c5⟩ := hL
  unfold opAct at h
  simp only at h
  refine b_M_act_0 (fun J1 e1 => t_M_isBody (n := S.2.2.2.2.1.1.length) (by rw [e1, kst_n (by omega)]; exact c1) c2 ?_)
  have g1 : ∀ a k, ¬ (a = 101 ∧ k = 40) → J1 a k = I a k := fun a k hk => by rw [e1, kst_n (by omega)]
  have mk : ∀ J : KI, J 101 40 = 0 → (∀ a k, ¬ (a = 101 ∧ (k = 40 ∨ k = 41 ∨ k = 42)) → J a k = I a k) → MLi S.2.2.2.2.1.1 [] J := fun J g0 g => ⟨by rw [g _ _ (by omega)]; exact c1, c2, fun k hk => by rw [g _ _ (by omega)]; exact c3 k hk, g0, fun k hk => absurd hk (Nat.not_lt_zero _)⟩
  have none_ : ¬ (0 ≤ b ∧ b < S.2.2.2.2.1.1.length ∧ 0 ≤ act ∧ act < 4) → ∀ J : KI, J 101 40 = 0 → (∀ a k, ¬ (a = 101 ∧ (k = 40 ∨ k = 41 ∨ k = 42)) → J a k = I a k) → Q 0 G J := fun hn J g0 g => by
    have e : bgn S.2.2.2.2.1.1 b act x = (0, []) := by unfold bgn; rw [if_neg hn]
    rw [e] at h
    exact h G J (hS.lies (fun a k n1 n2 => g a k (by omega)) (mk J g0 g)) (fun a k hk => g a k (by omega))
  refine ⟨fun h1 => ?_, fun h1 => none_ (by have := of_decide_eq_false (bi0 h1); omega) J1 (by rw [e1, kst_s]) (fun a k hk => g1 a k (by omega))⟩
  have hb := of_decide_eq_true (bi1 h1)
  refine ⟨by omega, fun J2 e2 J3 e3 => ?_⟩
  obtain ⟨m, rfl⟩ : ∃ m : Nat, b = m := ⟨b.toNat, by omega⟩
  have hk := hI.2.2.2.2.2.2.2.2.2.1 m (by omega)
  obtain ⟨kd, hkd⟩ : ∃ kd : Nat, S.2.2.2.2.1.1.getD m 0 = kd := ⟨(S.2.2.2.2.1.1.getD m 0).toNat, by omega⟩
  rw [g1 123 _ (by omega), c3 m (by omega), hkd] at e2
  have g3 : ∀ a k, ¬ (a = 101 ∧ (k = 40 ∨ k = 41 ∨ k = 42)) → J3 a k = I a k := fun a k hk => by rw [e3, kst_n (by omega), e2, kst_n (by omega), g1 a k (by omega)]
  have g30 : J3 101 40 = 0 := by rw [e3, kst_n (by omega), e2, kst_n (by omega), e1, kst_s]
  have g31 : J3 101 41 = (kd : Int) := by rw [e3, kst_n (by omega), e2, kst_s]
  have hC : MAc S.2.2.2.2.1.1 [] (m : Int) kd J3 := ⟨mk J3 g30 g3, g31, by rw [e3, kst_s]⟩
  rw [g31]
  have hT := actT_le kd
  have run : ∀ (j a : Nat) (V : Int → Int) (T : List Int), act = (a : Int) → a < 4 → actV (m : Int) kd a = V → actT kd a = T → AsOk xs j (d + 79) kd (m : Int) kd V T → kWP xs true (d + 79) 0 0 j 0 [(0, 19, 0, 101), (1, 0, 0, (kd : Int)), (2, 0, 0, x)] [] G J3 Q := fun j a V T ha ha4 eV eT hA => by
    have e : bgn S.2.2.2.2.1.1 (m : Int) act x = (V x, T) := by
      unfold bgn
      rw [if_pos (by omega), ha]
      simp only [Int.toNat_natCast]
      rw [hkd, Int.toNat_natCast, eV, eT]
    rw [e] at h
    refine hA x _ [] G J3 Q hC (by have := hT a; rw [← eT]; simp only [List.length_nil]; omega) (fun J hJ hf => h G J (hS.lies (fun a k n1 n2 => by rw [hf a k (by omega) (by omega)]; exact g3 a k (by omega)) hJ.1) (fun a k hk => by rw [hf a k (by omega) (by omega)]; exact g3 a k (by omega)))
  refine ⟨fun w => none_ (by omega) J3 g30 g3, fun w => none_ (by omega) J3 g30 g3, fun w => run _ 0 _ _ w (by omega) rfl rfl (as_lies (d := d + 77)), fun w => run _ 1 _ _ w (by omega) rfl rfl (as_crosses (d := d + 74)), fun w => run _ 2 _ _ w (by omega) rfl rfl (as_undoes (d := d + 76)), fun w => run _ 3 _ _ w (by omega) rfl rfl (as_tells (d := d + 72)), trivial⟩
