/-! plain by the weights: the sum's entries as the digits of one number -/
def hv (f : Nat → Int) : Nat → Nat → Int
  | _, 0 => 0
  | s, n + 1 => f s + kB * hv f (s + 1) n
theorem hv_cg {f g : Nat → Int} : ∀ (n s : Nat), (∀ k, s ≤ k → k < s + n → f k = g k) → hv f s n = hv g s n
  | 0, _, _ => rfl
  | n + 1, s, h => by
    show f s + kB * hv f (s + 1) n = g s + kB * hv g (s + 1) n
    rw [h s (by omega) (by omega), hv_cg n (s + 1) (fun k h1 h2 => h k (by omega) (by omega))]
theorem hv_0 : ∀ (n s : Nat), hv (fun _ => 0) s n = 0
  | 0, _ => rfl
  | n + 1, s => by
    show 0 + kB * hv _ (s + 1) n = 0
    rw [hv_0 n (s + 1)]; rfl
theorem hv_add (f g : Nat → Int) : ∀ (n s : Nat), hv (fun k => f k + g k) s n = hv f s n + hv g s n
  | 0, _ => rfl
  | n + 1, s => by
    show f s + g s + kB * hv _ (s + 1) n = f s + kB * hv f (s + 1) n + (g s + kB * hv g (s + 1) n)
    rw [hv_add f g n (s + 1), Int.mul_add]
    omega
theorem hv_sm (F : Nat → Nat → Int) (s n : Nat) : ∀ N, hv (fun k => sm (fun g => F g k) N) s n = sm (fun g => hv (F g) s n) N
  | 0 => hv_0 n s
  | N + 1 => by
    show hv (fun k => sm (fun g => F g k) N + F N k) s n = sm _ N + hv (F N) s n
    rw [hv_add, hv_sm F s n N]
theorem hv_inj {f g : Nat → Int} : ∀ (n s : Nat), (∀ k, -40000 ≤ f k ∧ f k ≤ 40000) → (∀ k, -40000 ≤ g k ∧ g k ≤ 40000) → hv f s n = hv g s n → ∀ k, s ≤ k → k < s + n → f k = g k
  | 0, s, _, _, _, k, h1, h2 => by omega
  | n + 1, s, hf, hg, e, k, h1, h2 => by
    have e1 : f s + 1048576 * hv f (s + 1) n = g s + 1048576 * hv g (s + 1) n := e
    have b1 := hf s
    have b2 := hg s
    by_cases hk : k = s
    · subst hk; omega
    · exact hv_inj n (s + 1) hf hg (by omega) k (by omega) (by omega)
def spQ (sg b : Int) (t : Nat) : Nat → Int → Int
  | 0, _ => 0
  | i + 1, k => spQ sg b t i k + (if k = b + t - 2 * i then sg * ((chs t i : Nat) : Int) else 0)
theorem sprT_Q {xs : KS} (hx : XCh xs) {sg b : Int} {t : Nat} (ht : t < 8) (k : Int) : ∀ i, i ≤ t + 1 → sprT xs sg b t i k = spQ sg b t i k
  | 0, _ => rfl
  | i + 1, hi => by
    show sprT xs sg b t i k + _ = spQ sg b t i k + _
    rw [sprT_Q hx ht k i (by omega), hx t i ht (by omega)]
theorem kro : ∀ n : Nat, n < 8 → ∀ p : Nat, p < n + 1 → ∀ j : Nat, j < n + 1 → ∀ t : Nat, t < n + 1 → n = 0 ∨ hv (fun k => spQ (sgn2 (n + t) 1) (2 * (n : Int) - (j : Int) - 3 * (p : Int) + 21) t (t + 1) (k : Int)) 0 43 * tgt n p = wf (t + 1) (2 * n - (t + 1)) (n - j) * kB ^ 21 := by decide +kernel
theorem lk_c (g s : Nat) : ∀ c, lk g s c + (List.range c).countP (fun i => (g ^^^ s).testBit i) = c
  | 0 => rfl
  | c + 1 => by
    have ih := lk_c g s c
    rw [List.range_succ, List.countP_append, List.countP_singleton]
    show lk g s c + _ + _ = _
    rw [Nat.testBit_xor]
    generalize (List.range c).countP _ = K at *
    cases g.testBit c <;> cases s.testBit c <;> simp <;> omega
theorem npop_r : ∀ n, n < 8 → ∀ x, x < 128 → x < 2 ^ n → (List.range n).countP (fun i => x.testBit i) = npop x := by decide +kernel
theorem lk_n {n g s : Nat} (hn : n ≤ 7) (hg : g < 2 ^ n) (hs : s < 2 ^ n) : lk g s n = n - npop (g ^^^ s) ∧ npop (g ^^^ s) ≤ n := by
  have h1 := lk_c g s n
  have hx : g ^^^ s < 2 ^ n := Nat.xor_lt_two_pow hg hs
  have h7 : 2 ^ n ≤ 2 ^ 7 := Nat.pow_le_pow_right (by omega) hn
  rw [npop_r n (by omega) _ (by omega) hx] at h1
  omega
theorem kB_21 : kB ^ 21 = hv (fun k => if k = 21 then 1 else 0) 0 43 := by decide +kernel
theorem tgt_0 : ∀ n, n < 8 → ∀ p, p < 8 → tgt n p ≠ 0 := by decide +kernel
/-- what the check says: the sum is plain -/
theorem chk_pl {xs : KS} (hx : XCh xs) {P : Pic} (h : PicW P) (h0 : P.2.length ≠ 0) {s : Nat} (hs : s < 2 ^ P.2.length) (hc : chk P.2.length (kyI (2 * P.2.length) (2 * P.2.length)) (P.1.map Prod.fst) s = true) : isPl (val xs P s) = true := by
  have hc := of_decide_eq_true hc
  have hl := h.len
  have h7 := h.1
  have hw := wdP_w h
  have hwn := wdP_n P
  have hwl := wdP_l P
  have hpc : pcx (wdP P) = pcx P := funext (wdP_c P)
  have hps : ∀ c, c < (wdP P).2.length → psg (wdP P) c = false := fun c hc => by
    show (List.replicate P.2.length false).getD c false = false
    rw [List.getD_eq_getElem?_getD, List.getElem?_replicate]
    split <;> rfl
  have hr := ref_s hw hps (P.1.map Prod.fst) (fun c hc => ix2_p h (by rw [hwn] at hc; exact hc)) s P.2.length 0 0 (kyI (wdP P).1.length (wdP P).1.length) (by rw [hwn]; omega) (by decide) (MRel.init hw)
  rw [dpr_s] at hc
  rw [hwl, hl] at hr
  have hd : dsum (ref (crL (P.1.map Prod.fst) s P.2.length 0)) [(kyI (2 * P.2.length) (2 * P.2.length), 1)] = ref (crL (P.1.map Prod.fst) s P.2.length 0) (kyI (2 * P.2.length) (2 * P.2.length)) := by
    show 1 * _ + 0 = _
    omega
  rw [hd] at hc
  rw [hc, hwn] at hr
  have hr1 : tgt P.2.length (npop s) = sm (fun g => wgt (wdP P) s g P.2.length) (2 ^ P.2.length) := by
    have e1 : wgt (wdP P) s 0 0 = 1 := rfl
    rw [e1, Int.mul_one] at hr
    rw [hr]
    exact sm_cg (fun g _ => by rw [Nat.zero_add, Nat.pow_zero, Nat.one_mul])
  have hwg : ∀ g, g < 2 ^ P.2.length → wgt (wdP P) s g P.2.length = wf (rings P g) (2 * P.2.length - rings P g) (lk g s P.2.length) := fun g _ => by
    have := wgt_n hw hps (by rw [hwl]; omega) s g
    rw [hwn] at this
    rw [this, rings_cg (P := P) (R := wdP P) hwl hpc]
  have hp7 : npop s ≤ P.2.length := npop_len P.2.length (by omega) s (by
    have : 2 ^ P.2.length ≤ 2 ^ 7 := Nat.pow_le_pow_right (by omega) h7
    omega) hs
  have hone : ∀ g, g < 2 ^ P.2.length → hv (fun k => tmV xs P.2.length (npop s) (npop (g ^^^ s)) (rings P g) (k : Int)) 0 43 * tgt P.2.length (npop s) = wgt (wdP P) s g P.2.length * kB ^ 21 := fun g hg => by
    obtain ⟨l1, l2⟩ := lk_n h7 hg hs
    have hR := rings_le h g
    rw [hwg g hg, l1]
    have := (kro P.2.length (by omega) (npop s) (by omega) (npop (g ^^^ s)) (by omega) (rings P g - 1) (by omega)).resolve_left h0
    rw [show rings P g - 1 + 1 = rings P g by omega] at this
    rw [← this]
    congr 1
    exact hv_cg _ _ (fun k _ _ => by
      unfold tmV
      have := sprT_Q hx (sg := sgn2 (P.2.length + (rings P g - 1)) 1) (b := 2 * (P.2.length : Int) - (npop (g ^^^ s) : Int) - 3 * (npop s : Int) + 21) (t := rings P g - 1) (by omega) (k : Int) (rings P g) (by omega)
      exact this)
  have hall : hv (fun k => vsm xs P s (k : Int)) 0 43 * tgt P.2.length (npop s) = kB ^ 21 * tgt P.2.length (npop s) := by
    have e1 : hv (fun k => vsm xs P s (k : Int)) 0 43 = sm (fun g => hv (fun k => tmV xs P.2.length (npop s) (npop (g ^^^ s)) (rings P g) (k : Int)) 0 43) (2 ^ P.2.length) := hv_sm (fun g k => tmV xs P.2.length (npop s) (npop (g ^^^ s)) (rings P g) (k : Int)) 0 43 _
    rw [e1, Int.mul_comm, ← sm_mul]
    rw [sm_cg (g := fun g => kB ^ 21 * wgt (wdP P) s g P.2.length) (fun g hg => by rw [Int.mul_comm, hone g hg, Int.mul_comm]), sm_mul, ← hr1]
  have hne := tgt_0 P.2.length (by omega) (npop s) (by omega)
  have heq := Int.eq_of_mul_eq_mul_right hne hall
  rw [kB_21] at heq
  have hfin := hv_inj (f := fun k => vsm xs P s (k : Int)) (g := fun k => if k = 21 then 1 else 0) 43 0 (fun k => by
    have := vsm_b hx h7 h.rg s (k : Int)
    show -40000 ≤ vsm xs P s (k : Int) ∧ vsm xs P s (k : Int) ≤ 40000
    omega) (fun k => by
    show -40000 ≤ (if k = 21 then (1 : Int) else 0) ∧ (if k = 21 then (1 : Int) else 0) ≤ 40000
    split <;> omega) heq
  rw [isPl_iff]
  intro k hk
  rw [val_v hx h7 h.rg hs]
  exact hfin k (Nat.zero_le _) (by omega)
