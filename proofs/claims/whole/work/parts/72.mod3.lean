/-! THE MODEL: sums found, looked at -/
def trn (P : Pic) : Int := if wrh P % 2 = 0 then 1 else -1
def csT (tw : Int) (m : Nat) (p : Int) : Nat → Int → Int
  | 0, _ => 0
  | i + 1, e => csT tw m p i e + (if e = 60 + p + 2 * (m : Int) - 4 * (i : Int) then tw * (chs m i : Int) else 0)
def ctw (P : Pic) (m : Nat) : Int := if m % 2 = 0 then trn P else -trn P
def ctm (P : Pic) (R : Nat → Nat) (j : Nat) (e : Int) : Int := csT (ctw P (R j - 1)) (R j - 1) ((P.2.length : Int) - 2 * (pc14 j : Int) - 3 * wrh P) (R j) e
def cfA (P : Pic) (R : Nat → Nat) : Nat → Int → Int
  | 0, _ => 0
  | j + 1, e => cfA P R j e + ctm P R j e
def cof (P : Pic) (e : Int) : Int := w32 (cfA P (lps P) (2 ^ P.2.length) e)
def LpOk (P : Pic) : Prop := ∀ w, w < 2 ^ P.2.length → 1 ≤ lps P w ∧ lps P w ≤ 8
theorem wrh_b {P : Pic} : -(P.2.length : Int) ≤ wrh P ∧ wrh P ≤ (P.2.length : Int) := by
  rw [← wsm_w]; exact wsm_b P _
theorem trn_c (P : Pic) : trn P = 1 ∨ trn P = -1 := by unfold trn; split <;> simp
theorem krem2' {x : Int} (h1 : -60 ≤ x) (h2 : x ≤ 60) : kirem x 2 = 0 ↔ x % 2 = 0 := by
  have := krem2 (x + 60).toNat (by omega)
  rw [show (((x + 60).toNat : Nat) : Int) - 60 = x by omega] at this
  exact this
theorem w32_sg {t s : Int} {c : Nat} (ht : t = 1 ∨ t = -1) (hs : s = 1 ∨ s = -1) (hc : c ≤ 35) : w32 (w32 (t * s) * (c : Int)) = (t * s) * (c : Int) := by
  rcases ht with rfl | rfl <;> rcases hs with rfl | rfl <;> (unfold w32; omega)
theorem t_M_findSum {xs : KS} {d : Nat} {P : Pic} {G : KG} {I : KI} {Q : KQ} (hP : MHd P I) (hW : pwh P) (hL : LpOk P) (h : ∀ I' : KI, (∀ e : Nat, e < 121 → I' 113 (e : Int) = cof P (e : Int)) → kfr 113 115 I I' → Q 0 G I') : kWP xs true (d + 3) 0 0 161 0 [(0, 19, 0, 101)] [] G I Q := by
  have hP0 := hP
  obtain ⟨a7, a2, an, av, as⟩ := hP
  have hw := wrh_b (P := P)
  have h7 := pw7 a7
  refine b_M_findSum_0 ?_
  -- all ways
  have ways : ∀ (u j : Nat) (J : KI), j + u = 2 ^ P.2.length → kfr 113 115 I J → (∀ e : Nat, e < 121 → J 113 (e : Int) = w32 (cfA P (lps P) j (e : Int))) → kWP xs true (d + 3) 0 0 161 40 [(0, 19, 0, 101), (1, 0, 0, wrh P), (2, 0, 0, trn P), (3, 0, 0, (j : Int))] [] G J Q := by
    intro u
    induction u with
    | zero =>
      intro j J hj hf hV
      have : j = 2 ^ P.2.length := by omega
      subst this
      refine b_M_findSum_40 ?_
      rw [hf _ _ (by omega), an, kishl_n (by omega)]
      exact ⟨fun _ => h J hV hf, fun hh => by omega⟩
    | succ u ih =>
      intro j J hj hf hV
      have hj2 : j < 2 ^ P.2.length := by omega
      have hl := hL j hj2
      have hpc : pc14 j ≤ P.2.length := by rw [pc14_np j (by omega)]; exact npop_len _ (by omega) j (by omega) hj2
      refine b_M_findSum_40 ?_
      rw [hf _ _ (by omega), an, kishl_n (by omega)]
      refine ⟨fun hh => by omega, fun _ => t_M_bitsOf (by omega) (t_M_loops (hP0.fr (fun a k hk => hf _ _ (by omega))) hW (by omega) (fun J1 hf1 => ?_))⟩
      have hf1' := hf.tr (hf1.w (lo' := 113) (hi' := 115) (by omega) (by omega))
      rw [hf1' _ _ (by omega), an]
      obtain ⟨m, hm⟩ : ∃ m, lps P j = m + 1 := ⟨lps P j - 1, by omega⟩
      obtain ⟨pw, hpw⟩ : ∃ pw : Int, [pw] = [(P.2.length : Int) - 2 * (pc14 j : Int) - 3 * wrh P] := ⟨_, rfl⟩
      have hpw' := (List.cons.inj hpw).1
      have hpwb : -28 ≤ pw ∧ pw ≤ 28 := by omega
      rw [w32_id (x := 2 * (pc14 j : Int)) (by omega) (by omega), w32_id (x := (P.2.length : Int) - 2 * (pc14 j : Int)) (by omega) (by omega), w32_id (x := 3 * wrh P) (by omega) (by omega), w32_id (x := (P.2.length : Int) - 2 * (pc14 j : Int) - 3 * wrh P) (by omega) (by omega), w32_id (x := (lps P j : Int) - 1) (by omega) (by omega), ← hpw', hm, show ((m + 1 : Nat) : Int) - 1 = (m : Int) by omega]
      have hctm : ∀ e, ctm P (lps P) j e = csT (ctw P m) m pw (m + 1) e := fun e => by
        unfold ctm; rw [hm, Nat.add_sub_cancel, (List.cons.inj hpw).1]
      clear hpw' hpw
      have hm8 : m < 8 := by omega
      -- one way
      have inner : ∀ (v i : Nat) (J : KI), i + v = m + 1 → kfr 113 115 I J → (∀ e : Nat, e < 121 → J 113 (e : Int) = w32 (cfA P (lps P) j (e : Int) + csT (ctw P m) m pw i (e : Int))) → kWP xs true (d + 3) 0 0 161 83 [(0, 19, 0, 101), (1, 0, 0, wrh P), (2, 0, 0, trn P), (3, 0, 0, (j : Int)), (5, 0, 0, (m : Int)), (6, 0, 0, pw), (7, 0, 0, (i : Int))] [] G J Q := by
        intro v
        induction v with
        | zero =>
          intro i J hi hf hV
          have : i = m + 1 := by omega
          subst this
          refine b_M_findSum_83 ⟨fun _ => ?_, fun hh => by omega⟩
          rw [w32_inc (by omega)]
          refine ih (j + 1) J (by omega) hf (fun e he => ?_)
          rw [hV e he]
          show w32 _ = w32 (cfA P (lps P) j (e : Int) + ctm P (lps P) j (e : Int))
          rw [hctm]
        | succ v ihv =>
          intro i J hi hf hV
          have hb := chs_le m hm8 i (by omega)
          obtain ⟨x, hx⟩ : ∃ x : Nat, (x : Int) = 60 + pw + 2 * (m : Int) - 4 * (i : Int) := ⟨(60 + pw + 2 * (m : Int) - 4 * (i : Int)).toNat, by omega⟩
          have hx121 : x < 121 := by omega
          refine b_M_findSum_83 ⟨fun hh => by omega, fun _ => ?_⟩
          rw [w32_id (x := 60 + pw) (by omega) (by omega), w32_id (x := 2 * (m : Int)) (by omega) (by omega), w32_id (x := 60 + pw + 2 * (m : Int)) (by omega) (by omega), w32_id (x := 4 * (i : Int)) (by omega) (by omega), w32_id (x := 60 + pw + 2 * (m : Int) - 4 * (i : Int)) (by omega) (by omega), ← hx, w32_inc (by omega)]
          have fin : ∀ (tw : Int) (J1 : KI), tw = ctw P m → J1 = kst J 113 (x : Int) (w32 (J 113 (x : Int) + tw * (chs m i : Int))) → kWP xs true (d + 3) 0 0 161 83 [(0, 19, 0, 101), (1, 0, 0, wrh P), (2, 0, 0, trn P), (3, 0, 0, (j : Int)), (5, 0, 0, (m : Int)), (6, 0, 0, pw), (7, 0, 0, ((i + 1 : Nat) : Int))] [] G J1 Q := by
            intro tw J1 htw e1
            refine ihv (i + 1) J1 (by omega) (hf.tr (fun a k hk => by rw [e1, kst_n (by omega)])) (fun e he => ?_)
            rw [e1]
            show _ = w32 (cfA P (lps P) j (e : Int) + (csT (ctw P m) m pw i (e : Int) + (if (e : Int) = 60 + pw + 2 * (m : Int) - 4 * (i : Int) then ctw P m * (chs m i : Int) else 0)))
            by_cases hex : e = x
            · rw [hex, kst_s, if_pos hx, hV x hx121, htw]
              unfold w32; omega
            · rw [kst_n (by omega), if_neg (by omega), Int.add_zero]
              exact hV e he
          have ht := trn_c P
          have km : kirem (m : Int) 2 = 0 ↔ (m : Int) % 2 = 0 := krem2' (by omega) (by omega)
          refine ⟨by omega, by omega, fun h1 => t_M_choose hm8 (by omega) ⟨by omega, fun J1 e1 => ?_⟩, fun h1 => t_M_choose hm8 (by omega) ⟨by omega, fun J1 e1 => ?_⟩⟩
          · rw [w32_sg ht (Or.inr rfl) hb] at e1
            refine fin (trn P * (-1)) J1 ?_ e1
            unfold ctw
            rw [if_neg (fun hh => h1 (km.mpr (by omega)))]; omega
          · rw [w32_sg ht (Or.inl rfl) hb] at e1
            refine fin (trn P * 1) J1 ?_ e1
            have := km.mp h1
            unfold ctw
            rw [if_pos (by omega)]; omega
      exact inner (m + 1) 0 J1 (by omega) hf1' (fun e he => by
        show _ = w32 (cfA P (lps P) j (e : Int) + 0)
        rw [Int.add_zero, hf1 _ _ (by omega)]; exact hV e he)
  refine loop_up (n := 121) (W := fun e => ∀ J : KI, (∀ k : Nat, k < e → J 113 (k : Int) = 0) → kfr 113 115 I J → kWP xs true (d + 3) 0 0 161 2 [(0, 19, 0, 101), (1, 0, 0, (e : Int))] [] G J Q) ?_ ?_ (Nat.zero_le _) I (fun k hk => absurd hk (Nat.not_lt_zero k)) (kfr.rf _ _ _)
  · intro J hJ hf
    have hz : ∀ e : Nat, e < 121 → J 113 (e : Int) = w32 (cfA P (lps P) 0 (e : Int)) := fun e he => by rw [hJ e he]; rfl
    refine b_M_findSum_2 ⟨fun _ => t_M_writhe (hP0.fr (fun a k hk => hf _ _ (by omega))) ⟨by omega, fun h1 => ?_, fun h1 => ?_⟩, fun hh => by omega⟩
    · have := ways (2 ^ P.2.length) 0 J (by omega) hf hz
      have e : trn P = -1 := by unfold trn; rw [if_neg (fun hh => h1 ((krem2' (by omega) (by omega)).mpr hh))]
      rw [e] at this; exact this
    · have := ways (2 ^ P.2.length) 0 J (by omega) hf hz
      have e : trn P = 1 := by unfold trn; rw [if_pos ((krem2' (by omega) (by omega)).mp h1)]
      rw [e] at this; exact this
  · intro e he ih J hJ hf
    refine b_M_findSum_2 ⟨fun hh => by omega, fun _ => ⟨by omega, fun J1 e1 => ?_⟩⟩
    rw [w32_inc (by omega)]
    refine ih J1 (fun k hk => ?_) (hf.tr (fun a k hk => by rw [e1, kst_n (by omega)]))
    rw [e1]
    by_cases hke : k = e
    · rw [hke, kst_s]
    · rw [kst_n (by omega)]; exact hJ k (by omega)
