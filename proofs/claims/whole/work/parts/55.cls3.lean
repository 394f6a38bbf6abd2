/-! THE CLASS: simpler, words, small helpers -/
def wot (P : Pic) (g : Nat) : Pic := (bldF bs0 (vlw P g P.1.length)).2
/-- moves, till there is none: how many, and what is left -/
def smpL : Nat → Pic → Nat × Pic
  | 0, P => (0, P)
  | u + 1, P => if gbm P = 0 then (0, P) else let r := smpL u (wot P (gbm P)); (r.1 + 1, r.2)
theorem smpL_s {u : Nat} {P : Pic} (h : gbm P ≠ 0) : smpL (u + 1) P = ((smpL u (wot P (gbm P))).1 + 1, (smpL u (wot P (gbm P))).2) := by
  show (if gbm P = 0 then (0, P) else let r := smpL u (wot P (gbm P)); (r.1 + 1, r.2)) = _
  rw [if_neg h]
theorem t_C_makeSimpler {xs : KS} {d : Nat} {p : Int} {P : Pic} {G : KG} {I : KI} {Q : KQ} (Ok : Pic → Prop) (hOk : ∀ P, Ok P → pwh P ∧ gbm P < 128 ∧ (gbm P ≠ 0 → Ok (wot P (gbm P)))) (hP : CPic p P I) (hp : 10 ≤ p) (h0 : Ok P)
    (h : ∀ I' : KI, CPic 3 (smpL 7 P).2 I' → kfr 3 10 I I' → Q ((smpL 7 P).1 : Int) G I') : kWP xs true (d + 4) 0 0 135 0 [(0, 18, 0, 0), (1, 13, 0, p)] [] G I Q := by
  refine b_C_makeSimpler_0 (t_Picture_copy hP (by omega) (fun J0 hJ0 hf0 _ => ?_))
  suffices key : ∀ (u i : Nat) (R : Pic) (J : KI), i + u = 7 → Ok R → CPic 3 R J → kfr 3 10 I J → ((i + (smpL u R).1, (smpL u R).2) = smpL 7 P) → kWP xs true (d + 4) 0 0 135 10 [(0, 18, 0, 0), (2, 0, 0, (i : Int))] [] G J Q from key 7 0 P J0 rfl h0 hJ0 (hf0.w (by omega) (by omega)) (by rw [Nat.zero_add])
  intro u
  induction u with
  | zero =>
    intro i R J hi hR hJ hf e
    have h := h J (by rw [← e]; exact hJ) hf
    rw [← e] at h
    refine b_C_makeSimpler_10 ⟨fun _ => ?_, fun h1 => by omega⟩
    have : ((i + (smpL 0 R).1 : Nat) : Int) = 7 := by unfold smpL; omega
    rw [this] at h; exact h
  | succ u ih =>
    intro i R J hi hR hJ hf e
    obtain ⟨hw, hg, hn⟩ := hOk R hR
    refine b_C_makeSimpler_10 ⟨fun h1 => by omega, fun _ => t_Picture_goneByMove hJ hw ⟨fun h1 => ?_, fun h1 => ?_⟩⟩
    · have h1' : gbm R ≠ 0 := by omega
      refine t_Picture_beWithout (p := 7) hJ hg (by omega) (fun J1 hJ1 hf1 _ => t_Picture_copy (p := 3) hJ1 (by omega) (fun J2 hJ2 hf2 _ => ?_))
      rw [w32_id (by omega) (by omega)]
      refine ih (i + 1) (wot R (gbm R)) J2 (by omega) (hn h1') hJ2 ((hf.tr (hf1.w (by omega) (by omega))).tr (hf2.w (by omega) (by omega))) ?_
      rw [← e, smpL_s h1']
      simp only [Prod.mk.injEq, and_true]
      omega
    · have h1' : gbm R = 0 := by omega
      have e1 : smpL (u + 1) R = (0, R) := by unfold smpL; rw [if_pos h1']
      rw [e1] at e
      have h := h J (by rw [← e]; exact hJ) hf
      rw [← e] at h
      exact h
/-- crossings as digits -/
def dig (n : Nat) : Nat → Int
  | 0 => 0
  | c + 1 => if n.testBit c then 10 * dig n c + c else dig n c
theorem dig_le {n : Nat} : ∀ c, c ≤ 7 → 0 ≤ dig n c ∧ dig n c < p10 4 * 1000
  | 0, _ => by unfold dig; decide
  | c + 1, h => by
    have key : ∀ c, c ≤ 7 → 0 ≤ dig n c ∧ dig n c < (10 ^ c : Nat) := by
      intro c
      induction c with
      | zero => intro _; unfold dig; decide
      | succ c ih =>
        intro hc
        have ih := ih (by omega)
        unfold dig
        rw [Nat.pow_succ]
        have : c < 10 ^ c ∨ c = 0 := by
          rcases (show c = 0 ∨ c = 1 ∨ c = 2 ∨ c = 3 ∨ c = 4 ∨ c = 5 ∨ c = 6 by omega) with rfl | rfl | rfl | rfl | rfl | rfl | rfl <;> decide
        have hp : 0 < 10 ^ c := Nat.pow_pos (by omega)
        split <;> omega
    have h1 := key (c + 1) h
    have h2 : 10 ^ (c + 1) ≤ 10 ^ 7 := Nat.pow_le_pow_right (by omega) h
    have h3 : p10 4 * 1000 = ((10 ^ 7 : Nat) : Int) := by decide
    omega
theorem t_C_crossingsAsDigits {xs : KS} {d : Nat} {n : Nat} {G : KG} {I : KI} {Q : KQ} (hn : n < 128) (h : Q (dig n 7) G I) : kWP xs true (d) 0 0 134 0 [(0, 0, 0, (n : Int))] [] G I Q := by
  refine b_C_crossingsAsDigits_0 ?_
  refine loop_up (n := 7) (W := fun c => kWP xs true (d) 0 0 134 4 [(0, 0, 0, (n : Int)), (1, 0, 0, dig n c), (2, 0, 0, (c : Int))] [] G I Q) ?_ ?_ (Nat.zero_le _)
  · exact b_C_crossingsAsDigits_4 ⟨fun _ => h, fun h1 => by omega⟩
  · intro c hc ih
    have e1 : w32 ((c : Int) + 1) = ((c + 1 : Nat) : Int) := by rw [w32_id (by omega) (by omega)]; omega
    have hd := dig_le (n := n) c (by omega)
    have e10 : p10 4 * 1000 = 10000000 := by decide
    unfold dig at ih
    refine b_C_crossingsAsDigits_4 ⟨fun h1 => by omega, fun _ => ?_⟩
    rw [kbit_n (by omega) (by omega), e1]
    cases hb : n.testBit c with
    | false => rw [hb] at ih; exact ⟨fun _ => ih, fun hh => absurd rfl hh⟩
    | true =>
      rw [hb] at ih
      refine ⟨fun hh => absurd hh (by decide), fun _ => ?_⟩
      rw [w32_id (x := 10 * dig n c) (by omega) (by omega), w32_id (by omega) (by omega)]
      exact ih
theorem t_C_firstWord {xs : KS} {d L : Nat} {G : KG} {I : KI} {Q : KQ} (h : ∀ I' : KI, (∀ k : Nat, k < 7 → I' 17 (k : Int) = 0) → kfr 17 18 I I' → Q (bi (decide (0 < L))) G I') : kWP xs true (d + 1) 0 0 138 0 [(0, 18, 0, 0), (1, 0, 0, (L : Int))] [] G I Q := by
  refine b_C_firstWord_0 (t_fill (by omega) (fun J hJ => ?_))
  have h := h J (fun k hk => by rw [hJ, if_pos (by omega)]) (fun a k hk => by rw [hJ, if_neg (by omega)])
  refine ⟨fun h1 => ?_, fun h1 => ?_⟩
  · rw [decide_eq_false (by omega)] at h; exact h
  · rw [decide_eq_true (by omega)] at h; exact h
/-- the letters of the word of a number: small ones, in base q -/
def wdg (q w k : Nat) : Nat := 2 * (w / q ^ k % q)
theorem wdg_next {q w i c : Nat} (hq : 0 < q) (hc : w + 1 = q ^ i * c) (hd : (c - 1) % q + 1 < q) (hc0 : 0 < c) : ∀ k, wdg q (w + 1) k = if k < i then 0 else if k = i then wdg q w i + 2 else wdg q w k := by
  intro k
  have hp : ∀ j, 0 < q ^ j := fun j => Nat.pow_pos hq
  have hw : w = q ^ i * (c - 1) + (q ^ i - 1) := by
    have : q ^ i * c = q ^ i * (c - 1) + q ^ i := by rw [← Nat.mul_succ, Nat.succ_eq_add_one, show c - 1 + 1 = c by omega]
    have := hp i
    omega
  have hdiv : w / q ^ i = c - 1 := by
    rw [hw, Nat.mul_add_div (hp i), Nat.div_eq_of_lt (by have := hp i; omega)]; omega
  have hdiv1 : (w + 1) / q ^ i = c := by rw [hc, Nat.mul_div_cancel_left _ (hp i)]
  have hcq : c / q = (c - 1) / q ∧ c % q = (c - 1) % q + 1 := by
    have e := Nat.div_add_mod (c - 1) q
    have e2 : c = q * ((c - 1) / q) + ((c - 1) % q + 1) := by omega
    constructor
    · conv => lhs; rw [e2]
      rw [Nat.mul_add_div hq, Nat.div_eq_of_lt hd]; omega
    · conv => lhs; rw [e2]
      rw [Nat.mul_add_mod, Nat.mod_eq_of_lt hd]
  by_cases h1 : k < i
  · rw [if_pos h1]
    unfold wdg
    obtain ⟨m, rfl⟩ : ∃ m, i = k + 1 + m := ⟨i - k - 1, by omega⟩
    rw [hc, Nat.pow_add, Nat.pow_succ]
    rw [show q ^ k * q * q ^ m * c = q ^ k * (q * (q ^ m * c)) by simp only [Nat.mul_assoc], Nat.mul_div_cancel_left _ (hp k), Nat.mul_mod_right]
  · rw [if_neg h1]
    by_cases h2 : k = i
    · rw [if_pos h2, h2]
      unfold wdg
      rw [hdiv, hdiv1, hcq.2]; omega
    · rw [if_neg h2]
      unfold wdg
      obtain ⟨m, rfl⟩ : ∃ m, k = i + 1 + m := ⟨k - i - 1, by omega⟩
      rw [Nat.pow_add, Nat.pow_succ, ← Nat.div_div_eq_div_mul, ← Nat.div_div_eq_div_mul, ← Nat.div_div_eq_div_mul, ← Nat.div_div_eq_div_mul, hdiv, hdiv1, hcq.1]
theorem t_C_nextWord {xs : KS} {d L m w : Nat} {G : KG} {I : KI} {Q : KQ} (hm : 2 ≤ m) (hm4 : m ≤ 4) (hL : L ≤ 6) (hw : ∀ k : Nat, k < 7 → I 17 (k : Int) = if k < L then (wdg (m - 1) w k : Int) else 0)
    (h1 : ∀ I' : KI, ¬ ((m - 1) ^ L ∣ w + 1) → (∀ k : Nat, k < 7 → I' 17 (k : Int) = if k < L then (wdg (m - 1) (w + 1) k : Int) else 0) → kfr 17 18 I I' → Q 1 G I') (h0 : ∀ I' : KI, (m - 1) ^ L ∣ w + 1 → kfr 17 18 I I' → Q 0 G I') : kWP xs true (d) 0 0 139 0 [(0, 18, 0, 0), (1, 0, 0, (L : Int)), (2, 0, 0, (m : Int))] [] G I Q := by
  have hq : 0 < m - 1 := by omega
  refine b_C_nextWord_0 ?_
  refine loop_up (n := L) (W := fun i => ∀ J : KI, (m - 1) ^ i ∣ w + 1 → (∀ k : Nat, k < 7 → J 17 (k : Int) = if k < i then 0 else if k < L then (wdg (m - 1) w k : Int) else 0) → kfr 17 18 I J → kWP xs true (d) 0 0 139 2 [(0, 18, 0, 0), (1, 0, 0, (L : Int)), (2, 0, 0, (m : Int)), (3, 0, 0, (i : Int))] [] G J Q) ?_ ?_ (Nat.zero_le _) I (by rw [Nat.pow_zero]; exact Nat.one_dvd _) (fun k hk => by rw [if_neg (by omega)]; exact hw k hk) (kfr.rf _ _ _)
  · intro J hd hJ hf
    exact b_C_nextWord_2 ⟨fun _ => h0 J hd hf, fun hh => by omega⟩
  · intro i hi ih J hd hJ hf
    have hi0 := hJ i (by omega)
    rw [if_neg (by omega), if_pos hi] at hi0
    obtain ⟨c, hc⟩ := hd
    have hc0 : 0 < c := by
      rcases Nat.eq_zero_or_pos c with e | e
      · rw [e, Nat.mul_zero] at hc; omega
      · exact e
    have hp := Nat.pow_pos (n := i) hq
    have hdiv : w / (m - 1) ^ i = c - 1 := by
      have : (m - 1) ^ i * c = (m - 1) ^ i * (c - 1) + (m - 1) ^ i := by rw [← Nat.mul_succ, Nat.succ_eq_add_one, show c - 1 + 1 = c by omega]
      rw [show w = (m - 1) ^ i * (c - 1) + ((m - 1) ^ i - 1) by omega, Nat.mul_add_div hp, Nat.div_eq_of_lt (by omega)]; omega
    have hwd : wdg (m - 1) w i = 2 * ((c - 1) % (m - 1)) := by unfold wdg; rw [hdiv]
    have hml := Nat.mod_lt (c - 1) hq
    refine b_C_nextWord_2 ⟨fun hh => by omega, fun _ => ⟨fun hh => by omega, fun _ => ⟨by omega, ?_⟩⟩⟩
    rw [w32_id (x := (m : Int) - 2) (by omega) (by omega), w32_id (x := 2 * ((m : Int) - 2)) (by omega) (by omega), hi0]
    refine ⟨fun h2 => ⟨by omega, fun J1 e1 => ?_⟩, fun h2 => ⟨by omega, by omega, fun J1 e1 => ?_⟩⟩
    · rw [w32_id (by omega) (by omega)]
      refine ih J1 ?_ (fun k hk => ?_) (hf.tr (fun a k hk => by rw [e1, kst_n (by omega)]))
      · have hmod : (c - 1) % (m - 1) = m - 1 - 1 := by omega
        have hdm := Nat.div_add_mod (c - 1) (m - 1)
        have : c = (m - 1) * ((c - 1) / (m - 1) + 1) := by rw [Nat.mul_add]; omega
        refine ⟨(c - 1) / (m - 1) + 1, ?_⟩
        rw [Nat.pow_succ, Nat.mul_assoc, ← this]; exact hc
      · rw [e1]
        by_cases hk2 : k = i
        · rw [hk2, kst_s, if_pos (by omega)]
        · rw [kst_n (by omega), hJ k hk]
          by_cases hk3 : k < i
          · rw [if_pos hk3, if_pos (show k < i + 1 by omega)]
          · rw [if_neg hk3, if_neg (show ¬ k < i + 1 by omega)]
    · rw [w32_id (by omega) (by omega)] at e1
      have hnx := wdg_next hq hc (by omega) hc0
      refine h1 J1 (fun hd2 => ?_) (fun k hk => ?_) (hf.tr (fun a k hk => by rw [e1, kst_n (by omega)]))
      · obtain ⟨t, rfl⟩ : ∃ t, L = i + 1 + t := ⟨L - i - 1, by omega⟩
        obtain ⟨z, hz⟩ := hd2
        have hcz : c = (m - 1) * ((m - 1) ^ t * z) := by
          have : (m - 1) ^ i * c = (m - 1) ^ i * ((m - 1) * ((m - 1) ^ t * z)) := by
            rw [← hc, hz, Nat.pow_add, Nat.pow_succ]; simp only [Nat.mul_assoc]
          exact Nat.eq_of_mul_eq_mul_left hp this
        have hz0 : 0 < (m - 1) ^ t * z := by
          rcases Nat.eq_zero_or_pos ((m - 1) ^ t * z) with e | e
          · rw [e, Nat.mul_zero] at hcz; omega
          · exact e
        have : c - 1 = (m - 1) * ((m - 1) ^ t * z - 1) + (m - 1 - 1) := by
          have : (m - 1) * ((m - 1) ^ t * z) = (m - 1) * ((m - 1) ^ t * z - 1) + (m - 1) := by rw [← Nat.mul_succ, Nat.succ_eq_add_one, show (m - 1) ^ t * z - 1 + 1 = (m - 1) ^ t * z by omega]
          omega
        rw [this, Nat.mul_add_mod, Nat.mod_eq_of_lt (by omega)] at hwd
        omega
      · rw [hnx k, e1]
        by_cases hk2 : k = i
        · rw [hk2, kst_s, if_pos hi, if_neg (by omega), if_pos rfl]; omega
        · rw [kst_n (by omega), hJ k hk, if_neg hk2]
          by_cases hk3 : k < i
          · rw [if_pos hk3, if_pos (by omega), if_pos hk3]; rfl
          · rw [if_neg hk3, if_neg hk3]
