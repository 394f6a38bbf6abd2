/-! THE MODEL: places, bits, writhe, sums -/
theorem t_M_placeOf {xs : KS} {d c : Nat} {b : Bool} {P : Pic} {G : KG} {I : KI} {Q : KQ} (hP : MHd P I) (h : Q (plc P c b) G I) : kWP xs true (d) 0 0 150 0 [(0, 19, 0, 101), (1, 0, 0, (c : Int)), (2, 0, 0, bi b)] [] G I Q := by
  obtain ⟨a7, a2, an, av, as⟩ := hP
  refine b_M_placeOf_0 ?_
  refine loop_up (n := P.1.length) (W := fun j => (∀ i, i < j → (decide (pcx P i = c) && (pov P i == b)) = false) → kWP xs true (d) 0 0 150 2 [(0, 19, 0, 101), (1, 0, 0, (c : Int)), (2, 0, 0, bi b), (3, 0, 0, (j : Int))] [] G I Q) ?_ ?_ (Nat.zero_le _) (fun i hi => absurd hi (Nat.not_lt_zero i))
  · intro hi
    refine b_M_placeOf_2 ?_
    rw [an, w32_id (by omega) (by omega)]
    refine ⟨fun _ => ?_, fun h1 => by omega⟩
    unfold plc fnI at h
    rw [fnd_none hi, if_neg (by omega)] at h
    exact h
  · intro j hj ih hi
    refine b_M_placeOf_2 ?_
    rw [an, w32_id (x := 2 * (P.2.length : Int)) (by omega) (by omega), (av j hj).1, (av j hj).2, w32_inc (by omega)]
    refine ⟨fun h1 => by omega, fun _ => ⟨by omega, fun h1 => ih (all_step (p := fun i => (decide (pcx P i = c) && (pov P i == b)) = false) hi ?_), fun h1 => ⟨by omega, fun h2 => ih (all_step (p := fun i => (decide (pcx P i = c) && (pov P i == b)) = false) hi ?_), fun h2 => ?_⟩⟩⟩
    · have : ¬ pcx P j = c := by omega
      simp [this]
    · have : ¬ pov P j = b := fun e => h2 (by rw [e])
      simp [this]
    · unfold plc fnI at h
      have h3 : pcx P j = c := by omega
      have h4 : pov P j = b := bi_inj.mp h2
      rw [fnd_eq (f := fun k => decide (pcx P k = c) && (pov P k == b)) hj (by simp [h3, h4]) hi, if_pos hj] at h
      exact h
theorem t_M_before {xs : KS} {d k n : Nat} {G : KG} {I : KI} {Q : KQ} (hn : I 101 5 = (n : Int)) (h7 : n ≤ 7) (hk : k < 2 * n) (h : Q (bef (2 * n) k : Int) G I) : kWP xs true (d) 0 0 151 0 [(0, 19, 0, 101), (1, 0, 0, (k : Int))] [] G I Q := by
  refine b_M_before_0 ?_
  rw [hn, w32_id (x := 2 * (n : Int)) (by omega) (by omega), w32_id (x := 2 * (n : Int) - 1) (by omega) (by omega), w32_id (by omega) (by omega)]
  unfold bef at h
  refine ⟨fun h1 => ?_, fun h1 => ?_⟩
  · rw [if_pos (by omega)] at h
    rw [show (k : Int) - 1 = ((k - 1 : Nat) : Int) by omega]; exact h
  · rw [if_neg (by omega)] at h
    rw [show 2 * (n : Int) - 1 = ((2 * n - 1 : Nat) : Int) by omega]; exact h
theorem t_M_behind {xs : KS} {d k n : Nat} {G : KG} {I : KI} {Q : KQ} (hn : I 101 5 = (n : Int)) (h7 : n ≤ 7) (hk : k < 2 * n) (h : Q (aft (2 * n) k : Int) G I) : kWP xs true (d) 0 0 152 0 [(0, 19, 0, 101), (1, 0, 0, (k : Int))] [] G I Q := by
  refine b_M_behind_0 ?_
  rw [hn, w32_id (x := 2 * (n : Int)) (by omega) (by omega), w32_id (by omega) (by omega)]
  unfold aft at h
  refine ⟨fun h1 => ?_, fun h1 => ?_⟩
  · rw [if_pos (by omega)] at h
    rw [show (k : Int) + 1 = ((k + 1 : Nat) : Int) by omega]; exact h
  · rw [if_neg (by omega)] at h; exact h
/-- the number of bits, of 14 -/
def pc14 (n : Nat) : Nat := (List.range 14).countP (fun c => n.testBit c)
def pcs : Nat → Nat → Nat
  | 0, _ => 0
  | u + 1, n => pcs u (n / 2) + n % 2
theorem pcs_c : ∀ (u n : Nat), pcs u n = (List.range u).countP (fun c => n.testBit c)
  | 0, n => rfl
  | u + 1, n => by
    show pcs u (n / 2) + n % 2 = _
    rw [pcs_c u (n / 2), List.range_succ_eq_map, List.countP_cons, List.countP_map]
    congr 1
    · congr 1
      funext c
      show (n / 2).testBit c = n.testBit (c + 1)
      rw [Nat.testBit_succ]
    · rw [Nat.testBit_zero]
      rcases Nat.mod_two_eq_zero_or_one n with e | e <;> rw [e] <;> rfl
theorem pcs_and (n : Nat) : ∀ u, n < 2 ^ u → n ≠ 0 → pcs u (n &&& (n - 1)) + 1 = pcs u n := by
  intro u
  induction u generalizing n with
  | zero => intro h h0; omega
  | succ u ih =>
    intro h h0
    show pcs u ((n &&& (n - 1)) / 2) + (n &&& (n - 1)) % 2 + 1 = pcs u (n / 2) + n % 2
    have e2 : (n &&& (n - 1)) / 2 = n / 2 &&& (n - 1) / 2 := Nat.and_div_two
    have e1 : (n &&& (n - 1)) % 2 = (n % 2) * ((n - 1) % 2) := by
      rw [Nat.and_mod_two_pow (n := 1)]
      rcases Nat.mod_two_eq_zero_or_one n with a | a <;> rcases Nat.mod_two_eq_zero_or_one (n - 1) with b | b <;> simp only [Nat.pow_one, a, b] <;> rfl
    rcases Nat.mod_two_eq_zero_or_one n with a | a
    · have hn : n / 2 ≠ 0 := by omega
      have e3 : (n - 1) / 2 = n / 2 - 1 := by omega
      have := ih (n / 2) (by rw [Nat.pow_succ] at h; omega) hn
      rw [e2, e3, e1, a]
      omega
    · have e3 : (n - 1) / 2 = n / 2 := by omega
      have b : (n - 1) % 2 = 0 := by omega
      rw [e2, e3, e1, a, b, Nat.and_self]
theorem pc14_and {n : Nat} (h : n < 16384) (h0 : n ≠ 0) : pc14 (n &&& (n - 1)) + 1 = pc14 n := by
  unfold pc14
  rw [← pcs_c, ← pcs_c]
  exact pcs_and n 14 h h0
theorem pc14_0 : pc14 0 = 0 := by decide
theorem pc14_le (n : Nat) : pc14 n ≤ 14 := by
  have := List.countP_le_length (p := fun c => n.testBit c) (l := List.range 14)
  unfold pc14
  rw [List.length_range] at this
  exact this
theorem pc14_np : ∀ n, n < 128 → pc14 n = npop n := by decide +kernel
theorem t_M_bitsOf {xs : KS} {d n : Nat} {G : KG} {I : KI} {Q : KQ} (hn : n < 16384) (h : Q (pc14 n : Int) G I) : kWP xs true (d) 0 0 158 0 [(0, 0, 0, (n : Int))] [] G I Q := by
  refine b_M_bitsOf_0 ?_
  suffices key : ∀ (u m c : Nat), m < 16384 → pc14 m = u → c + u = pc14 n → kWP xs true (d) 0 0 158 4 [(1, 0, 0, (c : Int)), (2, 0, 0, (m : Int))] [] G I Q from key (pc14 n) n 0 hn rfl (by omega)
  intro u
  have hle := pc14_le n
  induction u with
  | zero =>
    intro m c hm e hc
    have m0 : m = 0 := by
      rcases Nat.eq_zero_or_pos m with e2 | e2
      · exact e2
      · have := pc14_and hm (by omega); omega
    refine b_M_bitsOf_4 ⟨fun _ => ?_, fun hh => absurd (by rw [m0]; rfl) hh⟩
    rw [show c = pc14 n by omega]; exact h
  | succ u ih =>
    intro m c hm e hc
    have m0 : m ≠ 0 := by intro e2; rw [e2, pc14_0] at e; omega
    have := pc14_and hm m0
    refine b_M_bitsOf_4 ⟨fun hh => absurd hh (by omega), fun _ => ?_⟩
    rw [w32_inc (by omega), w32_id (x := (m : Int) - 1) (by omega) (by omega), show (m : Int) - 1 = ((m - 1 : Nat) : Int) by omega, kiand_n (by omega) (by omega)]
    exact ih _ (c + 1) (Nat.lt_of_le_of_lt Nat.and_le_left hm) (by omega) (by omega)
def wsm (P : Pic) : Nat → Int
  | 0 => 0
  | c + 1 => wsm P c + sgi (psg P c)
theorem wsm_b (P : Pic) : ∀ c : Nat, -(c : Int) ≤ wsm P c ∧ wsm P c ≤ (c : Int)
  | 0 => by unfold wsm; omega
  | c + 1 => by
    have := wsm_b P c
    have := sgi_b (psg P c)
    unfold wsm; omega
theorem wsm_c (P : Pic) : ∀ c : Nat, wsm P c = 2 * ((List.range c).countP (fun e => psg P e) : Int) - c
  | 0 => rfl
  | c + 1 => by
    rw [wsm, wsm_c P c, List.range_succ, List.countP_append, List.countP_singleton]
    cases psg P c <;> unfold sgi <;> simp <;> omega
theorem wsm_w (P : Pic) : wsm P P.2.length = wrh P := by
  rw [wsm_c]
  unfold wrh
  rw [show (fun e => psg P e) = (fun c => P.2.getD c false) from rfl, cntP P.2 P.2.length (Nat.le_refl _)]
theorem t_M_writhe {xs : KS} {d : Nat} {P : Pic} {G : KG} {I : KI} {Q : KQ} (hP : MHd P I) (h : Q (wrh P) G I) : kWP xs true (d) 0 0 159 0 [(0, 19, 0, 101)] [] G I Q := by
  obtain ⟨a7, a2, an, av, as⟩ := hP
  rw [← wsm_w] at h
  refine b_M_writhe_0 ?_
  refine loop_up (n := P.2.length) (W := fun c => kWP xs true (d) 0 0 159 4 [(0, 19, 0, 101), (1, 0, 0, wsm P c), (2, 0, 0, (c : Int))] [] G I Q) ?_ ?_ (Nat.zero_le _)
  · refine b_M_writhe_4 ?_
    rw [an]
    exact ⟨fun _ => h, fun hh => by omega⟩
  · intro c hc ih
    have hb := wsm_b P c
    have hs := sgi_b (psg P c)
    refine b_M_writhe_4 ?_
    rw [an, as c hc, w32_inc (by omega), w32_id (by omega) (by omega)]
    exact ⟨fun hh => by omega, fun _ => ⟨by omega, ih⟩⟩
def chs (m : Nat) : Nat → Nat
  | 0 => 1
  | i + 1 => chs m i * (m - i) / (i + 1)
theorem chs_le : ∀ m, m < 8 → ∀ i, i < 9 → chs m i ≤ 35 := by decide
theorem t_M_choose {xs : KS} {d m k : Nat} {G : KG} {I : KI} {Q : KQ} (hm : m < 8) (hk : k ≤ m) (h : Q (chs m k : Int) G I) : kWP xs true (d) 0 0 160 0 [(0, 0, 0, (m : Int)), (1, 0, 0, (k : Int))] [] G I Q := by
  refine b_M_choose_0 ?_
  refine loop_up (n := k) (W := fun i => kWP xs true (d) 0 0 160 4 [(0, 0, 0, (m : Int)), (1, 0, 0, (k : Int)), (2, 0, 0, (chs m i : Int)), (3, 0, 0, (i : Int))] [] G I Q) ?_ ?_ (Nat.zero_le _)
  · exact b_M_choose_4 ⟨fun _ => h, fun hh => by omega⟩
  · intro i hi ih
    have hb := chs_le m hm i (by omega)
    refine b_M_choose_4 ⟨fun hh => by omega, fun _ => ?_⟩
    have hmul : chs m i * (m - i) ≤ 35 * 7 := Nat.mul_le_mul hb (by omega)
    have e : (chs m i : Int) * ((m : Int) - (i : Int)) = ((chs m i * (m - i) : Nat) : Int) := by
      rw [Int.natCast_mul, Int.natCast_sub (by omega)]
    rw [w32_inc (by omega), w32_id (x := (m : Int) - (i : Int)) (by omega) (by omega), e, w32_id (x := ((chs m i * (m - i) : Nat) : Int)) (by omega) (by omega), kidiv_n (by omega) (by omega) (by omega)]
    exact ⟨by omega, ih⟩
/-- rings by arcs that were joined -/
def jn (r : Nat → Nat) (a b : Nat) : Nat → Nat := fun k => if r k = r a then r b else r k
def lpR (P : Pic) (w : Nat) : Nat → Nat → Nat
  | 0 => fun k => k
  | c + 1 =>
    let r := lpR P w c
    let o := pln P c true
    let u := pln P c false
    if (w.testBit c == false) = psg P c then jn (jn r (bef P.1.length o) u) (bef P.1.length u) o else jn (jn r (bef P.1.length o) (bef P.1.length u)) o u
def lpS (P : Pic) (w : Nat) : Nat → Nat
  | 0 => 0
  | k + 1 => lpS P w k ||| 2 ^ (lpR P w P.2.length k)
def lps (P : Pic) (w : Nat) : Nat := if P.2.length = 0 then 1 else pc14 (lpS P w P.1.length)
theorem t_M_joins {xs : KS} {d a b n : Nat} {r : Nat → Nat} {G : KG} {I : KI} {Q : KQ} (hn : I 101 5 = (n : Int)) (h7 : n ≤ 7) (ha : a < 2 * n) (hb : b < 2 * n) (hr : ∀ k : Nat, k < 2 * n → I 114 (k : Int) = (r k : Int))
    (h : ∀ I' : KI, (∀ k : Nat, k < 2 * n → I' 114 (k : Int) = (jn r a b k : Int)) → kfr 114 115 I I' → Q 0 G I') : kWP xs true (d) 0 0 156 0 [(0, 19, 0, 101), (1, 0, 0, (a : Int)), (2, 0, 0, (b : Int))] [] G I Q := by
  refine b_M_joins_0 ⟨by omega, by omega, ?_⟩
  rw [hr a ha, hr b hb]
  refine loop_up (n := 2 * n) (W := fun j => ∀ J : KI, (∀ k : Nat, k < 2 * n → J 114 (k : Int) = if k < j then (jn r a b k : Int) else (r k : Int)) → kfr 114 115 I J → kWP xs true (d) 0 0 156 18 [(0, 19, 0, 101), (3, 0, 0, (r a : Int)), (4, 0, 0, (r b : Int)), (5, 0, 0, (j : Int))] [] G J Q) ?_ ?_ (Nat.zero_le _) I (fun k hk => by rw [if_neg (by omega)]; exact hr k hk) (kfr.rf _ _ _)
  · intro J hJ hf
    refine b_M_joins_18 ?_
    rw [hf _ _ (by omega), hn, w32_id (by omega) (by omega)]
    exact ⟨fun _ => h J (fun k hk => by rw [hJ k hk, if_pos hk]) hf, fun hh => by omega⟩
  · intro j hj ih J hJ hf
    have gj := hJ j hj
    rw [if_neg (by omega)] at gj
    have go : ∀ (J1 : KI) (v : Int), J1 = kst J 114 (j : Int) v → v = (jn r a b j : Int) → kWP xs true (d) 0 0 156 18 [(0, 19, 0, 101), (3, 0, 0, (r a : Int)), (4, 0, 0, (r b : Int)), (5, 0, 0, ((j + 1 : Nat) : Int))] [] G J1 Q := fun J1 v e1 ev => by
      refine ih J1 (fun k hk => ?_) (hf.tr (fun a k hk => by rw [e1, kst_n (by omega)]))
      rw [e1]
      by_cases hkj : k = j
      · rw [hkj, kst_s, if_pos (by omega)]; exact ev
      · rw [kst_n (by omega), hJ k hk]
        by_cases hk2 : k < j
        · rw [if_pos hk2, if_pos (show k < j + 1 by omega)]
        · rw [if_neg hk2, if_neg (show ¬ k < j + 1 by omega)]
    refine b_M_joins_18 ?_
    rw [hf _ _ (by omega), hn, w32_id (x := 2 * (n : Int)) (by omega) (by omega), gj, w32_inc (by omega)]
    refine ⟨fun hh => by omega, fun _ => ⟨by omega, fun h1 => ⟨by omega, by omega, fun J1 e1 => go J1 _ e1 ?_⟩, fun h1 => ⟨by omega, fun J1 e1 => go J1 _ e1 ?_⟩⟩⟩
    · unfold jn; rw [if_neg (by omega)]
    · unfold jn; rw [if_pos (by omega)]
theorem jn_lt {r : Nat → Nat} {a b m : Nat} (hb : b < m) (h : ∀ k, k < m → r k < m) : ∀ k, k < m → jn r a b k < m := fun k hk => by
  unfold jn; split
  · exact h b hb
  · exact h k hk
theorem bef_lt' {m k : Nat} (h : k < m) : bef m k < m := by unfold bef; split <;> omega
theorem lpR_lt {P : Pic} {w : Nat} (hW : pwh P) : ∀ c, c ≤ P.2.length → ∀ k, k < P.1.length → lpR P w c k < P.1.length
  | 0, _ => fun k hk => hk
  | c + 1, hc => by
    have ih := lpR_lt (w := w) hW c (by omega)
    have ho := hW c (by omega) true
    have hu := hW c (by omega) false
    unfold lpR
    simp only
    split
    · exact jn_lt ho (jn_lt hu ih)
    · exact jn_lt hu (jn_lt (bef_lt' hu) ih)
theorem lpS_lt {P : Pic} {w : Nat} (hW : pwh P) : ∀ k, k ≤ P.1.length → lpS P w k < 2 ^ P.1.length
  | 0, _ => by unfold lpS; exact Nat.two_pow_pos _
  | k + 1, hk => by
    unfold lpS
    exact Nat.or_lt_two_pow (lpS_lt hW k (by omega)) (Nat.pow_lt_pow_right (by omega) (lpR_lt hW _ (Nat.le_refl _) k (by omega)))
theorem t_M_loops {xs : KS} {d w : Nat} {P : Pic} {G : KG} {I : KI} {Q : KQ} (hP : MHd P I) (hW : pwh P) (hw : w < 128) (h : ∀ I' : KI, kfr 114 115 I I' → Q (lps P w : Int) G I') : kWP xs true (d + 1) 0 0 157 0 [(0, 19, 0, 101), (1, 0, 0, (w : Int))] [] G I Q := by
  have hP0 := hP
  obtain ⟨a7, a2, an, av, as⟩ := hP
  unfold lps at h
  refine b_M_loops_0 ?_
  rw [an]
  refine ⟨fun hn0 => ?_, fun hn0 => ?_⟩
  · rw [if_neg (by omega)] at h
    -- the rings told
    have tell : ∀ J : KI, kfr 114 115 I J → (∀ k : Nat, k < P.1.length → J 114 (k : Int) = (lpR P w P.2.length k : Int)) → kWP xs true (d + 1) 0 0 157 151 [(0, 19, 0, 101), (2, 0, 0, ((0 : Nat) : Int)), (3, 0, 0, ((0 : Nat) : Int))] [] G J Q := by
      intro J hf hr
      refine loop_up (n := P.1.length) (W := fun k => kWP xs true (d + 1) 0 0 157 151 [(0, 19, 0, 101), (2, 0, 0, (lpS P w k : Int)), (3, 0, 0, (k : Int))] [] G J Q) ?_ ?_ (Nat.zero_le _)
      · have hs := lpS_lt (w := w) hW P.1.length (Nat.le_refl _)
        refine b_M_loops_151 ?_
        rw [hf _ _ (by omega), an, w32_id (by omega) (by omega)]
        exact ⟨fun _ => t_M_bitsOf (p14 (by omega) hs) (h J hf), fun hh => by omega⟩
      · intro k hk ih
        have hs := lpS_lt (w := w) hW k (by omega)
        have hs14 := p14 (m := P.1.length) (by omega) hs
        have hr1 := lpR_lt (w := w) hW P.2.length (Nat.le_refl _) k hk
        refine b_M_loops_151 ?_
        rw [hf _ _ (by omega), an, w32_id (x := 2 * (P.2.length : Int)) (by omega) (by omega), hr k hk, w32_inc (by omega), kishl_n (by omega), kior_n (by omega) (by have := p14 (m := P.1.length) (by omega) (Nat.pow_lt_pow_right (a := 2) (by omega) hr1); omega)]
        exact ⟨fun hh => by omega, fun _ => ⟨by omega, ih⟩⟩
    -- crossing by crossing
    have cross : ∀ (u c : Nat) (J : KI), c + u = P.2.length → kfr 114 115 I J → (∀ k : Nat, k < P.1.length → J 114 (k : Int) = (lpR P w c k : Int)) → kWP xs true (d + 1) 0 0 157 36 [(0, 19, 0, 101), (1, 0, 0, (w : Int)), (2, 0, 0, (c : Int))] [] G J Q := by
      intro u
      induction u with
      | zero =>
        intro c J hc hf hr
        have : c = P.2.length := by omega
        subst this
        refine b_M_loops_36 ?_
        rw [hf _ _ (by omega), an]
        exact ⟨fun _ => tell J hf hr, fun hh => by omega⟩
      | succ u ih =>
        intro c J hc hf hr
        have hcn : c < P.2.length := by omega
        have hPJ : MHd P J := hP0.fr (fun a k hk => hf _ _ (by omega))
        have ho := hW c hcn true
        have hu := hW c hcn false
        have hbo := bef_lt' ho
        have hbu := bef_lt' hu
        have n5 : ∀ J' : KI, kfr 114 115 I J' → J' 101 5 = (P.2.length : Int) := fun J' hf' => by rw [hf' _ _ (by omega)]; exact an
        -- two joinings
        have two : ∀ (a b e g : Nat) (J : KI) (r : Nat → Nat) (Q1 : KI → Prop), kfr 114 115 I J → (∀ k : Nat, k < P.1.length → J 114 (k : Int) = (r k : Int)) → True := fun _ _ _ _ _ _ _ _ _ => trivial
        refine b_M_loops_36 ?_
        rw [hf _ _ (by omega), an, kbit_n (by omega) (by omega)]
        refine ⟨fun hh => by omega, fun _ => t_M_placeOf (b := true) hPJ (t_M_placeOf (b := false) hPJ ?_)⟩
        rw [plc_pln hW hcn, plc_pln hW hcn]
        have m2 : 2 * P.2.length = P.1.length := a2.symm
        have bA : ∀ (J : KI) (Q' : KQ) (k : Nat), kfr 114 115 I J → k < P.1.length → Q' (bef P.1.length k : Int) G J → kWP xs true (d) 0 0 151 0 [(0, 19, 0, 101), (1, 0, 0, (k : Int))] [] G J Q' := fun J Q' k hf hk hq => t_M_before (n5 J hf) a7 (by omega) (by rw [m2]; exact hq)
        have jA : ∀ (J : KI) (Q' : KQ) (a b : Nat) (r : Nat → Nat), kfr 114 115 I J → a < P.1.length → b < P.1.length → (∀ k : Nat, k < P.1.length → J 114 (k : Int) = (r k : Int)) → (∀ I' : KI, kfr 114 115 I I' → (∀ k : Nat, k < P.1.length → I' 114 (k : Int) = (jn r a b k : Int)) → Q' 0 G I') → kWP xs true (d) 0 0 156 0 [(0, 19, 0, 101), (1, 0, 0, (a : Int)), (2, 0, 0, (b : Int))] [] G J Q' := fun J Q' a b r hf ha hb hr hq =>
          t_M_joins (n := P.2.length) (r := r) (n5 J hf) a7 (by omega) (by omega) (fun k hk => hr k (by omega)) (fun I' h1 h2 => hq I' (hf.tr h2) (fun k hk => h1 k (by omega)))
        have go : ∀ s0 : Bool, s0 = (w.testBit c == false) → kWP xs true (d + 1) 0 0 157 72 [(0, 19, 0, 101), (1, 0, 0, (w : Int)), (2, 0, 0, (c : Int)), (3, 0, 0, (pln P c true : Int)), (4, 0, 0, (pln P c false : Int))] [(0, 0, bi s0)] G J Q := by
          intro s0 hs0
          -- goes on
          have on : s0 = psg P c → kWP xs true (d) 0 0 151 0 [(0, 19, 0, 101), (1, 0, 0, (pln P c true : Int))] [] G J (fun r5 G5 I5 => kWP xs true (d) 0 0 156 0 [(0, 19, 0, 101), (1, 0, 0, r5), (2, 0, 0, (pln P c false : Int))] [] G5 I5 (fun _ G6 I6 => kWP xs true (d) 0 0 151 0 [(0, 19, 0, 101), (1, 0, 0, (pln P c false : Int))] [] G6 I6 (fun r7 G7 I7 => kWP xs true (d) 0 0 156 0 [(0, 19, 0, 101), (1, 0, 0, r7), (2, 0, 0, (pln P c true : Int))] [] G7 I7 (fun _ G8 I8 => kWP xs true (d + 1) 0 0 157 36 [(0, 19, 0, 101), (1, 0, 0, (w : Int)), (2, 0, 0, w32 ((c : Int) + 1))] [] G8 I8 Q)))) := fun hs => by
            refine bA J _ _ hf ho (jA J _ _ _ _ hf hbo hu hr (fun I1 hf1 hr1 => bA I1 _ _ hf1 hu (jA I1 _ _ _ _ hf1 hbu ho hr1 (fun I2 hf2 hr2 => ?_))))
            rw [w32_inc (by omega)]
            refine ih (c + 1) I2 (by omega) hf2 (fun k hk => ?_)
            rw [hr2 k hk]
            show _ = ((if (w.testBit c == false) = psg P c then _ else _ : Nat → Nat) k : Int)
            rw [if_pos (by rw [← hs0]; exact hs)]
          have off : s0 ≠ psg P c → kWP xs true (d) 0 0 151 0 [(0, 19, 0, 101), (1, 0, 0, (pln P c true : Int))] [] G J (fun r1 G1 I1 => kWP xs true (d) 0 0 151 0 [(0, 19, 0, 101), (1, 0, 0, (pln P c false : Int))] [] G1 I1 (fun r2 G2 I2 => kWP xs true (d) 0 0 156 0 [(0, 19, 0, 101), (1, 0, 0, r1), (2, 0, 0, r2)] [] G2 I2 (fun _ G3 I3 => kWP xs true (d) 0 0 156 0 [(0, 19, 0, 101), (1, 0, 0, (pln P c true : Int)), (2, 0, 0, (pln P c false : Int))] [] G3 I3 (fun _ G4 I4 => kWP xs true (d + 1) 0 0 157 36 [(0, 19, 0, 101), (1, 0, 0, (w : Int)), (2, 0, 0, w32 ((c : Int) + 1))] [] G4 I4 Q)))) := fun hs => by
            refine bA J _ _ hf ho (bA J _ _ hf hu (jA J _ _ _ _ hf hbo hbu hr (fun I1 hf1 hr1 => jA I1 _ _ _ _ hf1 ho hu hr1 (fun I2 hf2 hr2 => ?_))))
            rw [w32_inc (by omega)]
            refine ih (c + 1) I2 (by omega) hf2 (fun k hk => ?_)
            rw [hr2 k hk]
            show _ = ((if (w.testBit c == false) = psg P c then _ else _ : Nat → Nat) k : Int)
            rw [if_neg (by rw [← hs0]; exact hs)]
          refine b_M_loops_72 ⟨by omega, ?_⟩
          rw [hf _ _ (by omega), as c hcn]
          refine ⟨fun h1 => ⟨fun h2 => off ?_, fun h2 => on ?_⟩, fun h1 => ⟨fun h2 => off ?_, fun h2 => on ?_⟩⟩
          · have p0 : psg P c = false := by cases hb : psg P c with | false => rfl | true => rw [hb] at h1; exact absurd rfl h1
            rw [p0, bi1 h2]; simp
          · have p0 : psg P c = false := by cases hb : psg P c with | false => rfl | true => rw [hb] at h1; exact absurd rfl h1
            rw [p0, bi0 h2]
          · have p1 : psg P c = true := by cases hb : psg P c with | true => rfl | false => rw [hb] at h1; exact absurd h1 (by decide)
            rw [p1]; intro e; rw [e] at h2; exact h2 rfl
          · have p1 : psg P c = true := by cases hb : psg P c with | true => rfl | false => rw [hb] at h1; exact absurd h1 (by decide)
            rw [p1]; cases s0 with | true => rfl | false => exact absurd h2 (by decide)
        cases hb : w.testBit c with
        | false => exact ⟨fun hh => absurd rfl hh, fun _ => go true (by rw [hb]; rfl)⟩
        | true => exact ⟨fun _ => go false (by rw [hb]; rfl), fun hh => absurd hh (by decide)⟩
    refine loop_up (n := P.1.length) (W := fun j => ∀ J : KI, (∀ k : Nat, k < j → J 114 (k : Int) = (k : Int)) → kfr 114 115 I J → kWP xs true (d + 1) 0 0 157 11 [(0, 19, 0, 101), (1, 0, 0, (w : Int)), (2, 0, 0, (j : Int))] [] G J Q) ?_ ?_ (Nat.zero_le _) I (fun k hk => absurd hk (Nat.not_lt_zero k)) (kfr.rf _ _ _)
    · intro J hJ hf
      refine b_M_loops_11 ?_
      rw [hf _ _ (by omega), an, w32_id (by omega) (by omega)]
      exact ⟨fun _ => cross P.2.length 0 J (by omega) hf (fun k hk => hJ k hk), fun hh => by omega⟩
    · intro j hj ih J hJ hf
      refine b_M_loops_11 ?_
      rw [hf _ _ (by omega), an, w32_id (x := 2 * (P.2.length : Int)) (by omega) (by omega), w32_inc (by omega)]
      refine ⟨fun hh => by omega, fun _ => ⟨by omega, fun J1 e1 => ih J1 (fun k hk => ?_) (hf.tr (fun a k hk => by rw [e1, kst_n (by omega)]))⟩⟩
      rw [e1]
      by_cases hkj : k = j
      · rw [hkj, kst_s]
      · rw [kst_n (by omega)]; exact hJ k (by omega)
  · rw [if_pos (by omega)] at h
    exact h I (kfr.rf _ _ _)
