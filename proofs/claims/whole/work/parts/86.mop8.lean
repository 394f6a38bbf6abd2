/-! THE MODEL'S CALLS: changes in thought, hidden ones -/
theorem t_M_takesChanged {xs : KS} {d i s : Nat} {ps : List Pic} {G : KG} {I : KI} {Q : KQ} (hM : OwedM xs) (hS : MPs ps I) (hi : i < ps.length) (hok : PicOk (pget ps i)) (hs : s < 2 ^ (pget ps i).2.length)
    (h : ∀ I' : KI, MCf 113 (val xs (pget ps i) (plm (pget ps i).2 ^^^ s)) I' → (∀ a k, ¬ (a = 101 ∧ k = 5) → ¬ (106 ≤ a ∧ a ≤ 108) → ¬ (113 ≤ a ∧ a ≤ 114) → I' a k = I a k) → Q 0 G I') : kWP xs true (d + 4) 0 0 204 0 [(0, 19, 0, 101), (1, 0, 0, (i : Int)), (2, 0, 0, (s : Int))] [] G I Q := by
  have h7 := pw7 hok.1
  have hn7 := hok.1
  refine b_M_takesChanged_0 (t_M_takesUp hS hi (fun J0 hP0 hf0 => ?_))
  generalize pget ps i = P at *
  refine loop_up (n := P.2.length) (W := fun c => ∀ J : KI, MHd (chS P s c) J → hfr I J → kWP xs true (d + 4) 0 0 204 7 [(0, 19, 0, 101), (2, 0, 0, (s : Int)), (3, 0, 0, (c : Int))] [] G J Q) ?_ ?_ (Nat.zero_le _) J0 hP0 hf0
  · intro J hP hf
    refine b_M_takesChanged_7 ?_
    rw [hP.2.2.1, chS_l2]
    refine ⟨fun _ => t_M_findSumV hM hP (chS_ok hok s _) (fun J1 hV hf1 => ?_), fun hh => by omega⟩
    rw [chS_pv hs] at hV
    exact h J1 hV (fun a k n1 n2 n3 => by rw [hf1 _ _ (by omega)]; exact hf a k n1 n2)
  · intro c hc ih J hP hf
    refine b_M_takesChanged_7 ?_
    rw [hP.2.2.1, chS_l2, kbit_n (by omega) (by omega), w32_inc (by omega)]
    refine ⟨fun hh => by omega, fun _ => ?_⟩
    have e1 : chS P s (c + 1) = if s.testBit c then chg (chS P s c) c else chS P s c := rfl
    cases hb : s.testBit c with
    | false =>
      rw [hb, if_neg (by simp)] at e1
      exact ⟨fun _ => ih J (by rw [e1]; exact hP) hf, fun hh => absurd hh (by decide)⟩
    | true =>
      rw [hb, if_pos rfl] at e1
      exact ⟨fun hh => absurd rfl hh, fun _ => t_M_changesAt hP (by rw [chS_l2]; exact hc) (fun J1 hP1 hf1 => ih J1 (by rw [e1]; exact hP1) (fun a k n1 n2 => by rw [hf1 _ _ (by omega)]; exact hf a k n1 n2))⟩
/-- some changes make it plain -/
def PlOk (xs : KS) (P : Pic) : Prop := ∃ s, s < 2 ^ P.2.length ∧ isPl (val xs P (plm P.2 ^^^ s)) = true
/-- the fewest changes, as the model finds them -/
def fwm (xs : KS) (P : Pic) : Nat → Option Nat
  | 0 => none
  | j + 1 => match fwm xs P j with
    | none => if isPl (val xs P (plm P.2 ^^^ j)) = true then some j else none
    | some b => if npop b ≤ npop j then some b else if isPl (val xs P (plm P.2 ^^^ j)) = true then some j else some b
theorem npop_all : ∀ n, n < 8 → ∀ j, j < 128 → j < 2 ^ n → j ≠ 2 ^ n - 1 → npop j < npop (2 ^ n - 1) := by decide +kernel
theorem npop_0 : ∀ b, b < 128 → npop b ≤ npop 0 → b = 0 := by decide +kernel
theorem fwm_lt {xs : KS} {P : Pic} : ∀ j b, fwm xs P j = some b → b < j
  | 0, b, h => by unfold fwm at h; cases h
  | j + 1, b, h => by
    unfold fwm at h
    cases hj : fwm xs P j with
    | none =>
      rw [hj] at h
      simp only at h
      split at h
      · injection h with h; omega
      · cases h
    | some c =>
      rw [hj] at h
      simp only at h
      have := fwm_lt j c hj
      split at h
      · injection h with h; omega
      · split at h
        · injection h with h; omega
        · injection h with h; omega
theorem fwm_pl {xs : KS} {P : Pic} : ∀ j, fwm xs P j = none → ∀ i, i < j → isPl (val xs P (plm P.2 ^^^ i)) = false
  | 0, _, i, hi => by omega
  | j + 1, h, i, hi => by
    unfold fwm at h
    cases hj : fwm xs P j with
    | none =>
      rw [hj] at h
      simp only at h
      split at h
      · cases h
      · rename_i hn
        by_cases e : i = j
        · rw [e]; exact Bool.eq_false_iff.mpr hn
        · exact fwm_pl j hj i (by omega)
    | some c =>
      rw [hj] at h
      simp only at h
      split at h
      · cases h
      · split at h <;> cases h
theorem fw_eq {xs : KS} {P : Pic} (h7 : P.2.length ≤ 7) : ∀ j, j ≤ 2 ^ P.2.length → (fwm xs P j = none → fwc xs P j = 2 ^ P.2.length - 1) ∧ ∀ b, fwm xs P j = some b → fwc xs P j = b
  | 0, _ => ⟨fun _ => rfl, fun b h => by unfold fwm at h; cases h⟩
  | j + 1, hj => by
    obtain ⟨i1, i2⟩ := fw_eq h7 j (by omega)
    have hp := pw7 h7
    have hpos := pw_pos P.2.length
    have ec : fwc xs P (j + 1) = if j ≠ 0 ∧ npop (fwc xs P j) ≤ npop j then fwc xs P j else if isPl (val xs P (plm P.2 ^^^ j)) = true then j else fwc xs P j := rfl
    unfold fwm
    cases hm : fwm xs P j with
    | none =>
      have e := i1 hm
      simp only
      rw [e] at ec
      by_cases hl : j = 2 ^ P.2.length - 1
      · -- the last one: left as it is, or taken, the same
        have : fwc xs P (j + 1) = 2 ^ P.2.length - 1 := by
          rw [ec]
          split
          · rfl
          · split
            · exact hl
            · rfl
        refine ⟨fun _ => this, fun b hb => ?_⟩
        split at hb
        · injection hb with hb; omega
        · cases hb
      · have hnl := npop_all P.2.length (by omega) j (by omega) (by omega) hl
        rw [if_neg (by omega)] at ec
        refine ⟨fun hn => ?_, fun b hb => ?_⟩
        · split at hn
          · cases hn
          · rename_i hx
            rw [ec, if_neg hx]
        · split at hb
          · rename_i hx
            injection hb with hb
            rw [ec, if_pos hx, hb]
          · cases hb
    | some c =>
      have e := i2 c hm
      have hcj := fwm_lt j c hm
      simp only
      rw [e] at ec
      refine ⟨fun hn => ?_, fun b hb => ?_⟩
      · split at hn
        · cases hn
        · split at hn <;> cases hn
      · rw [ec]
        by_cases hx : npop c ≤ npop j
        · rw [if_pos hx] at hb
          injection hb with hb
          rw [if_pos ⟨by omega, hx⟩]; exact hb
        · rw [if_neg hx] at hb
          rw [if_neg (fun hh => hx hh.2)]
          by_cases hy : isPl (val xs P (plm P.2 ^^^ j)) = true
          · rw [if_pos hy] at hb ⊢
            injection hb with hb
          · rw [if_neg hy] at hb ⊢
            injection hb with hb
def opt1 : Option Nat → Int
  | none => -1
  | some b => (b : Int)
theorem m_pulls {xs : KS} {p what : Int} (hM : OwedM xs) (hPl : ∀ P, PicOk P → PlOk xs P) : MOk xs 205 [(0, 19, 0, 101), (1, 0, 0, p), (2, 0, 0, what)] (opPulls xs p what) := by
  intro d S G I Q hS hI h
  have no : ∀ r J, mscr I J → opPulls xs p what S = (r, S) → Q r G J := fun r J hm e => by rw [e] at h; exact h G J (hS.ms hm) hm.lo
  refine b_M_pulls_0 (t_M_isPicture hS.1.1 hS.1.2.1 ⟨fun h1 => no _ _ (mscr.rf I) (by unfold opPulls; rw [if_neg (fun hh => of_decide_eq_false (bi0 h1) ⟨hh.1, hh.2.1⟩)]), fun h1 => t_M_within ⟨fun h2 => ?_, fun h2 => no _ _ (mscr.rf I) (by unfold opPulls; rw [if_neg (fun hh => of_decide_eq_false (bi0 h2) ⟨hh.2.2.1, hh.2.2.2⟩)])⟩⟩)
  have hp : 0 ≤ p ∧ p < S.1.length := of_decide_eq_true (bi1 h1)
  have h2 := of_decide_eq_true (bi1 h2)
  have h12 := hS.1.2.1
  obtain ⟨i, rfl⟩ : ∃ i : Nat, p = i := ⟨p.toNat, by omega⟩
  have hi : i < S.1.length := by omega
  have hok := hI.ok i hi
  have hpl := hPl _ hok
  have an := (hS.1.2.2 i hi).2.2.1
  unfold opPulls at no
  rw [if_pos ⟨hp.1, hp.2, h2.1, h2.2⟩, show pg S.1 (i : Int) = pget S.1 i from rfl] at no
  simp only at no
  have h7 := pw7 hok.1
  have hn7 := hok.1
  have hfe := fw_eq (xs := xs) hok.1 (2 ^ (pget S.1 i).2.length) (Nat.le_refl _)
  suffices key : ∀ (u j : Nat) (J : KI), j + u = 2 ^ (pget S.1 i).2.length → mscr I J → kWP xs true (d + 80) 0 0 205 25 [(0, 19, 0, 101), (1, 0, 0, (i : Int)), (2, 0, 0, what), (3, 0, 0, opt1 (fwm xs (pget S.1 i) j)), (4, 0, 0, (j : Int))] [] G J Q from key (2 ^ (pget S.1 i).2.length) 0 I (by omega) (mscr.rf I)
  intro u
  induction u with
  | zero =>
    intro j J hj hm
    have hj : j = 2 ^ (pget S.1 i).2.length := by omega
    subst hj
    refine b_M_pulls_25 ⟨by omega, ?_⟩
    rw [hm 102 _ (by omega) (by omega), an, kishl_n (by omega)]
    refine ⟨fun _ => ?_, fun hh => by omega⟩
    cases hf : fwm xs (pget S.1 i) (2 ^ (pget S.1 i).2.length) with
    | none =>
      exfalso
      obtain ⟨s, hs, hsp⟩ := hpl
      rw [fwm_pl _ hf s hs] at hsp
      cases hsp
    | some b =>
      have hb := fwm_lt _ _ hf
      rw [hfe.2 b hf] at no
      refine ⟨fun _ => ⟨fun w => no _ _ hm (by rw [if_neg w]; rfl), fun w => ?_⟩, fun hh => by have hh2 : (b : Int) < 0 := hh; omega⟩
      show kWP xs true (d + 79) 0 0 158 0 [(0, 0, 0, (b : Int))] [] G J (fun r1 G1 I1 => Q r1 G1 I1)
      refine t_M_bitsOf (by omega) (no _ _ hm ?_)
      rw [if_pos w, pc14_np b (by omega)]
  | succ u ih =>
    intro j J hj hm
    have hj2 : j < 2 ^ (pget S.1 i).2.length := by omega
    refine b_M_pulls_25 ⟨by omega, ?_⟩
    rw [hm 102 _ (by omega) (by omega), an, kishl_n (by omega)]
    refine ⟨fun hh => by omega, fun _ => ?_⟩
    have e1 : fwm xs (pget S.1 i) (j + 1) = match fwm xs (pget S.1 i) j with
      | none => if isPl (val xs (pget S.1 i) (plm (pget S.1 i).2 ^^^ j)) = true then some j else none
      | some b => if npop b ≤ npop j then some b else if isPl (val xs (pget S.1 i) (plm (pget S.1 i).2 ^^^ j)) = true then some j else some b := rfl
    have try_ : ∀ o : Option Nat, (fwm xs (pget S.1 i) (j + 1) = if isPl (val xs (pget S.1 i) (plm (pget S.1 i).2 ^^^ j)) = true then some j else o) → kWP xs true (d + 79) 0 0 204 0 [(0, 19, 0, 101), (1, 0, 0, (i : Int)), (2, 0, 0, (j : Int))] [] G J (fun _ G2 I2 => kWP xs true (d + 79) 0 0 162 0 [(0, 19, 0, 101)] [] G2 I2 (fun r3 G3 I3 => (r3 = 0 → kWP xs true (d + 80) 0 0 205 25 [(0, 19, 0, 101), (1, 0, 0, (i : Int)), (2, 0, 0, what), (3, 0, 0, opt1 o), (4, 0, 0, w32 ((j : Int) + 1))] [] G3 I3 Q) ∧ (r3 ≠ 0 → kWP xs true (d + 80) 0 0 205 25 [(0, 19, 0, 101), (1, 0, 0, (i : Int)), (2, 0, 0, what), (3, 0, 0, (j : Int)), (4, 0, 0, w32 ((j : Int) + 1))] [] G3 I3 Q))) := fun o eo => by
      refine t_M_takesChanged hM (hS.1.ms hm) hi hok hj2 (fun J1 hV hf1 => t_M_isPlain hV ?_)
      have ih := ih (j + 1) J1 (by omega) (hm.tr (fun a k n1 n2 => hf1 a k (by omega) (by omega) (by omega)))
      rw [w32_inc (by omega)]
      rw [eo] at ih
      cases hb : isPl (val xs (pget S.1 i) (plm (pget S.1 i).2 ^^^ j)) with
      | false => rw [hb, if_neg (by simp)] at ih; exact ⟨fun _ => ih, fun hh => absurd rfl hh⟩
      | true => rw [hb, if_pos rfl] at ih; exact ⟨fun hh => absurd hh (by decide), fun _ => ih⟩
    cases hf : fwm xs (pget S.1 i) j with
    | none =>
      rw [hf] at e1
      simp only at e1
      exact ⟨fun _ => try_ none e1, fun hh => absurd hh (by decide)⟩
    | some b =>
      rw [hf] at e1
      simp only at e1
      have hb := fwm_lt _ _ hf
      refine ⟨fun hh => by have hh2 : (b : Int) < 0 := hh; omega, fun _ => ?_⟩
      show kWP xs true (d + 79) 0 0 158 0 [(0, 0, 0, (j : Int))] [] G J (fun r4 G4 I4 => kWP xs true (d + 79) 0 0 158 0 [(0, 0, 0, (b : Int))] [] G4 I4 (fun r5 G5 I5 => (r4 < r5 → kWP xs true (d + 79) 0 0 204 0 [(0, 19, 0, 101), (1, 0, 0, (i : Int)), (2, 0, 0, (j : Int))] [] G5 I5 (fun _ G6 I6 => kWP xs true (d + 79) 0 0 162 0 [(0, 19, 0, 101)] [] G6 I6 (fun r7 G7 I7 => (r7 = 0 → kWP xs true (d + 80) 0 0 205 25 [(0, 19, 0, 101), (1, 0, 0, (i : Int)), (2, 0, 0, what), (3, 0, 0, (b : Int)), (4, 0, 0, w32 ((j : Int) + 1))] [] G7 I7 Q) ∧ (r7 ≠ 0 → kWP xs true (d + 80) 0 0 205 25 [(0, 19, 0, 101), (1, 0, 0, (i : Int)), (2, 0, 0, what), (3, 0, 0, (j : Int)), (4, 0, 0, w32 ((j : Int) + 1))] [] G7 I7 Q)))) ∧ (r5 ≤ r4 → kWP xs true (d + 80) 0 0 205 25 [(0, 19, 0, 101), (1, 0, 0, (i : Int)), (2, 0, 0, what), (3, 0, 0, (b : Int)), (4, 0, 0, w32 ((j : Int) + 1))] [] G5 I5 Q)))
      refine t_M_bitsOf (by omega) (t_M_bitsOf (by omega) ⟨fun hlt => ?_, fun hle => ?_⟩)
      · rw [pc14_np j (by omega), pc14_np b (by omega)] at hlt
        rw [if_neg (by omega)] at e1
        exact try_ (some b) e1
      · rw [pc14_np j (by omega), pc14_np b (by omega)] at hle
        rw [if_pos (by omega)] at e1
        rw [w32_inc (by omega)]
        have ih := ih (j + 1) J (by omega) hm
        rw [e1] at ih
        exact ih
