/-! THE SHAKER -/
theorem kiushr8 (a : Int) : ∃ n : Nat, kiushr a 8 = (n : Int) ∧ n < 16777216 := by
  unfold kiushr
  have e : (Int32.ofInt 8).toUInt32 &&& Int32.toUInt32 31 = 8 := by decide
  rw [e]
  generalize (Int32.ofInt a).toUInt32 = x
  have hl : (x >>> 8).toNat < 16777216 := by
    rw [UInt32.toNat_shiftRight]
    have h1 : x.toNat < 4294967296 := x.toNat_lt
    have h2 : (8 : UInt32).toNat % 32 = 8 := by decide
    rw [h2, Nat.shiftRight_eq_div_pow]
    omega
  refine ⟨(x >>> 8).toNat, ?_, hl⟩
  show ((x >>> 8).toBitVec).toInt = _
  rw [BitVec.toInt_eq_toNat_of_lt]
  · rfl
  · show 2 * (x >>> 8).toNat < _
    omega
def zn (z : Int) : Int := w32 (w32 (z * 1103515245) + 12345)
def drw (z b : Int) : Int := kirem (kiushr z 8) b
theorem drw_lt (z : Int) {b : Nat} (hb : 0 < b) (hb2 : b < 1000) : ∃ n : Nat, drw z (b : Int) = (n : Int) ∧ n < b := by
  obtain ⟨n, e, hn⟩ := kiushr8 z
  unfold drw
  rw [e, kirem_n (by omega) hb (by omega)]
  exact ⟨_, rfl, Nat.mod_lt _ hb⟩
theorem t_Shaker_draw {xs : KS} {d b : Nat} {G : KG} {I : KI} {Q : KQ} (hb : 0 < b) (h : ∀ I' : KI, I' = kst I 20 5 (zn (I 20 5)) → Q (drw (zn (I 20 5)) (b : Int)) G I') : kWP xs true (d) 0 0 66 0 [(0, 14, 0, 20), (1, 0, 0, (b : Int))] [] G I Q := by
  refine b_Shaker_draw_0 (fun J e1 => ⟨fun h1 => by omega, fun _ => ⟨by omega, ?_⟩⟩)
  have h := h J e1
  rw [e1, kst_s]
  rw [e1] at h
  exact h
/-- a word closed: the picture, and whether it is one cord -/
def clP (ws : Nat → Nat) (n m : Nat) : Pic := (bldF bs0 (clS ws n (min (clf ws n m + 1) m)).1).2
def clO (ws : Nat → Nat) (n m : Nat) : Bool := decide (clf ws n m + 1 = m)
def ClLen (ws : Nat → Nat) (n m : Nat) : Prop := ∀ k, k < m → (∀ i, i < k → (clS ws n (i + 1)).2 ≠ 0) → (clS ws n (k + 1)).1.length ≤ 14
/-- what is wanted of closed words -/
def ClOk : Prop := ∀ (ws : Nat → Nat) (n m : Nat), 2 ≤ m → m ≤ 4 → n ≤ 7 → (∀ k, k < n → ws k < 2 * m - 2) → ClLen ws n m ∧ (clO ws n m = true → RgOk (clP ws n m))
def out (xs : KS) (ws : Nat → Nat) (n m : Nat) : Nat := if clO ws n m = true then (if isPl (val xs (clP ws n m) (plm (clP ws n m).2)) = true then 1 else 2) else 0
theorem out_lt {xs : KS} {ws : Nat → Nat} {n m : Nat} : out xs ws n m < 3 := by unfold out; split <;> (try split) <;> omega
theorem t_Picture_beClosedP {xs : KS} {d : Nat} {p wa : Int} {w1 n m : Nat} {ws : Nat → Nat} {G : KG} {I : KI} {Q : KQ} (hwa : p + 3 ≤ wa ∨ wa < p) (hw : ∀ k, k < n → I wa k = (ws k : Int) ∧ ws k < 2 * m - 2) (hn : n ≤ 7) (hn1 : n ≤ w1) (hm : m ≤ 4) (hl : ClLen ws n m)
    (h : ∀ I' : KI, CPic p (clP ws n m) I' → kfr p (p + 3) I I' → I' p 3 = 0 → Q (bi (clO ws n m)) G I') : kWP xs true (d + 2) 0 0 48 0 [(0, 13, 0, p), (1, 4, w1, wa), (2, 0, 0, (n : Int)), (3, 0, 0, (m : Int))] [] G I Q :=
  t_Picture_beClosed hwa (fun k hk => ⟨(hw k hk).1, by have := (hw k hk).2; omega⟩) hn hn1 (by omega) hl h
theorem t_Shaker_workOut {xs : KS} {d n m : Nat} {ws : Nat → Nat} {G : KG} {I : KI} {Q : KQ} (hx : (xs 0).1 = 64) (hcl : ClOk) (hw : ∀ k, k < n → I 33 k = (ws k : Int) ∧ ws k < 2 * m - 2) (hn : n ≤ 6) (hm2 : 2 ≤ m) (hm : m ≤ 4)
    (h : ∀ I' : KI, kfr 23 33 I I' → Q (out xs ws n m : Int) G I') : kWP xs true (d + 3) 0 0 68 0 [(0, 14, 0, 20), (1, 0, 0, (n : Int)), (2, 0, 0, (m : Int))] [] G I Q := by
  obtain ⟨hl, hR⟩ := hcl ws n m hm2 hm (by omega) (fun k hk => (hw k hk).2)
  unfold out at h
  refine b_Shaker_workOut_0 (t_Picture_beClosedP (p := 23) (by omega) hw (by omega) hn hm hl (fun J1 hP1 hf1 _ => ?_))
  cases hb : clO ws n m with
  | false =>
    rw [hb, if_neg (by simp)] at h
    exact ⟨fun hh => absurd rfl hh, fun _ => h J1 (hf1.w (by omega) (by omega))⟩
  | true =>
    rw [hb, if_pos rfl] at h
    refine ⟨fun _ => t_Sums_cutS (p := 27) hP1 (by omega) (fun J2 hC2 hf2 => ?_), fun hh => absurd hh (by decide)⟩
    have hP2 := hP1.fr hf2 (by omega)
    rw [hP2.pl]
    refine t_Sums_workS hx hC2 (hR hb) (plm_lt _) (fun J3 hC3 hV3 hf3 => t_C_isPlain hV3 ?_)
    have h := h J3 ((hf1.w (by omega) (by omega)).tr ((hf2.w (by omega) (by omega)).tr (hf3.w (by omega) (by omega))))
    cases hc : isPl (val xs (clP ws n m) (plm (clP ws n m).2)) with
    | false => rw [hc, if_neg (by simp)] at h; exact ⟨fun _ => h, fun hh => absurd rfl hh⟩
    | true => rw [hc, if_pos rfl] at h; exact ⟨fun hh => absurd hh (by decide), fun _ => h⟩
/-- a word's number -/
def kyw (ws : Nat → Nat) (m : Nat) : Nat → Nat
  | 0 => m
  | k + 1 => 8 * kyw ws m k + ws k
theorem kyw_b {ws : Nat → Nat} {m : Nat} (hm2 : 2 ≤ m) (hm : m ≤ 4) : ∀ L, (∀ k, k < L → ws k < 8) → 2 * 8 ^ L ≤ kyw ws m L ∧ kyw ws m L + 1 ≤ 5 * 8 ^ L
  | 0, _ => by unfold kyw; omega
  | L + 1, h => by
    have ih := kyw_b (ws := ws) hm2 hm L (fun k hk => h k (by omega))
    have := h L (by omega)
    unfold kyw
    rw [Nat.pow_succ]
    omega
theorem kyw_eq {ws vs : Nat → Nat} {m l : Nat} : ∀ L, (∀ k, k < L → ws k < 8) → (∀ k, k < L → vs k < 8) → kyw ws m L = kyw vs l L → m = l ∧ ∀ k, k < L → ws k = vs k
  | 0, _, _, e => ⟨e, fun k hk => absurd hk (Nat.not_lt_zero k)⟩
  | L + 1, h1, h2, e => by
    have a := h1 L (by omega)
    have b := h2 L (by omega)
    unfold kyw at e
    obtain ⟨c1, c2⟩ := kyw_eq (ws := ws) (vs := vs) (m := m) (l := l) L (fun k hk => h1 k (by omega)) (fun k hk => h2 k (by omega)) (by omega)
    refine ⟨c1, fun k hk => ?_⟩
    by_cases e2 : k = L
    · rw [e2]; omega
    · exact c2 k (by omega)
theorem kyw_L {ws vs : Nat → Nat} {m l L K : Nat} (hm2 : 2 ≤ m) (hm : m ≤ 4) (hl2 : 2 ≤ l) (hl : l ≤ 4) (h1 : ∀ k, k < L → ws k < 8) (h2 : ∀ k, k < K → vs k < 8) (e : kyw ws m L = kyw vs l K) : L = K := by
  have a := kyw_b (ws := ws) hm2 hm L h1
  have b := kyw_b (ws := vs) hl2 hl K h2
  have step : ∀ i j, i < j → 8 * 8 ^ i ≤ 8 ^ j := fun i j hij => by
    have := Nat.pow_le_pow_right (n := 8) (by omega) (show i + 1 ≤ j from hij)
    rw [Nat.pow_succ] at this; omega
  have p := Nat.pow_pos (n := L) (show 0 < 8 by omega)
  have q := Nat.pow_pos (n := K) (show 0 < 8 by omega)
  rcases Nat.lt_trichotomy L K with h | h | h
  · have := step L K h; omega
  · exact h
  · have := step K L h; omega
theorem stg_cg {ws vs : Nat → Nat} {i : Nat} (h : ws i = vs i) (S : VL × Nat) : stg ws i S = stg vs i S := by unfold stg; rw [h]
theorem goa_cg {ws vs : Nat → Nat} : ∀ n, (∀ k, k < n → ws k = vs k) → ∀ S, goa ws n S = goa vs n S
  | 0, _, S => rfl
  | n + 1, h, S => by
    show stg ws n (goa ws n S) = stg vs n (goa vs n S)
    rw [goa_cg n (fun k hk => h k (by omega)), stg_cg (h n (by omega))]
theorem clS_cg {ws vs : Nat → Nat} {n : Nat} (h : ∀ k, k < n → ws k = vs k) : ∀ k, clS ws n k = clS vs n k
  | 0 => rfl
  | k + 1 => by
    show goa ws n (clS ws n k) = goa vs n (clS vs n k)
    rw [clS_cg h k, goa_cg n h]
theorem clf_cg {ws vs : Nat → Nat} {n m : Nat} (h : ∀ k, k < n → ws k = vs k) : clf ws n m = clf vs n m := by
  unfold clf
  congr 1
  funext k
  rw [clS_cg h]
theorem out_cg {xs : KS} {ws vs : Nat → Nat} {n m : Nat} (h : ∀ k, k < n → ws k = vs k) : out xs ws n m = out xs vs n m := by
  unfold out clO clP
  rw [clf_cg h, clS_cg h]
/-- what came of words lately -/
def CKnw (xs : KS) (I : KI) : Prop := ∀ s : Nat, s < 509 → I 34 (s : Int) = 0 ∨ ∃ (ws : Nat → Nat) (n m : Nat), n ≤ 6 ∧ 2 ≤ m ∧ m ≤ 4 ∧ (∀ k, k < n → ws k < 2 * m - 2) ∧ I 34 (s : Int) = ((4 * kyw ws m n + out xs ws n m : Nat) : Int)
theorem CKnw.fr {xs : KS} {I J : KI} (h : CKnw xs I) (hf : ∀ k, J 34 k = I 34 k) : CKnw xs J := fun s hs => by rw [hf]; exact h s hs
theorem kishl2 {x : Nat} (h : x < 100000000) : kishl (x : Int) 2 = ((4 * x : Nat) : Int) := by
  unfold kishl
  rw [show Int32.ofInt 2 &&& 31 = Int32.ofInt 2 from by decide]
  show ((Int32.ofInt x <<< Int32.ofInt 2).toBitVec).toInt = _
  rw [Int32.toBitVec_shiftLeft, kbv (by omega) (by omega)]
  have e : ((Int32.ofInt 2).toBitVec.smod 32) = 2#32 := by decide
  rw [e]
  rw [show BitVec.ofNat 32 (x : Int).toNat <<< 2#32 = BitVec.ofNat 32 (4 * x) from ?_]
  · exact kbi (by omega)
  · apply BitVec.eq_of_toNat_eq
    rw [BitVec.shiftLeft_eq', BitVec.toNat_shiftLeft, BitVec.toNat_ofNat, BitVec.toNat_ofNat]
    rw [show (2 % 2 ^ 32 : Nat) = 2 from rfl, BitVec.toNat_ofNat, Nat.shiftLeft_eq, Int.toNat_natCast]
    omega
theorem kor4 {k r : Nat} (hk : k < 100000000) (hr : r < 4) : kior (kishl (k : Int) 2) (r : Int) = ((4 * k + r : Nat) : Int) := by
  rw [kishl2 hk, kior_n (by omega) (by omega)]
  have := Nat.shiftLeft_add_eq_or_of_lt (i := 2) (show r < 2 ^ 2 by omega) k
  rw [Nat.shiftLeft_eq] at this
  rw [show 4 * k = k * 2 ^ 2 by omega, ← this]
theorem kand3' {v : Nat} (h : v < 2147483648) : kiand (v : Int) 3 = ((v % 4 : Nat) : Int) := by
  rw [show (3 : Int) = ((3 : Nat) : Int) from rfl, kiand_n h (by omega)]
  congr 1
  exact Nat.and_two_pow_sub_one_eq_mod v 2
theorem kshr2 {v : Nat} (h : v < 2147483648) : kishr (v : Int) 2 = ((v / 4 : Nat) : Int) := by
  rw [show (2 : Int) = ((2 : Nat) : Int) from rfl, kishr_n h (by omega), Nat.shiftRight_eq_div_pow]
theorem t_Shaker_outcome {xs : KS} {d n m : Nat} {ws : Nat → Nat} {G : KG} {I : KI} {Q : KQ} (hx : (xs 0).1 = 64) (hcl : ClOk) (hw : ∀ k, k < n → I 33 k = (ws k : Int) ∧ ws k < 2 * m - 2) (hn : n ≤ 6) (hm2 : 2 ≤ m) (hm : m ≤ 4) (hK : CKnw xs I)
    (h : ∀ I' : KI, CKnw xs I' → kfr 23 35 I I' → Q (out xs ws n m : Int) G I') : kWP xs true (d + 4) 0 0 67 0 [(0, 14, 0, 20), (1, 0, 0, (n : Int)), (2, 0, 0, (m : Int))] [] G I Q := by
  have h8 : ∀ k, k < n → ws k < 8 := fun k hk => by have := (hw k hk).2; omega
  have hb := kyw_b (ws := ws) hm2 hm n h8
  have hp6 : 8 ^ n ≤ 8 ^ 6 := Nat.pow_le_pow_right (by omega) hn
  have ho := out_lt (xs := xs) (ws := ws) (n := n) (m := m)
  have hbs : kyw ws m n < 2000000 := by
    have : (8 : Nat) ^ 6 = 262144 := by decide
    omega
  obtain ⟨s, hs⟩ : ∃ s : Nat, s = kyw ws m n % 509 := ⟨_, rfl⟩
  have hs5 : s < 509 := by rw [hs]; exact Nat.mod_lt _ (by omega)
  have erem : kirem ((kyw ws m n : Nat) : Int) 509 = (s : Int) := by
    have := kirem_n (a := kyw ws m n) (b := 509) (by omega) (by omega) (by omega)
    rw [← hs] at this; exact this
  have fin : kWP xs true (d + 4) 0 0 67 5 [(0, 14, 0, 20), (1, 0, 0, (n : Int)), (2, 0, 0, (m : Int)), (3, 0, 0, (kyw ws m n : Int)), (4, 0, 0, (n : Int))] [] G I Q := by
    refine b_Shaker_outcome_5 ⟨fun _ => ?_, fun hh => by omega⟩
    rw [erem]
    refine ⟨by omega, fun hh => by omega, fun _ => ⟨fun _ => ⟨by omega, fun h1 => ⟨by omega, ?_⟩, fun h1 => t_Shaker_workOut hx hcl hw hn hm2 hm (fun J hf => ⟨by omega, fun J1 e1 => ⟨by omega, ?_⟩⟩)⟩, fun hh => by omega⟩⟩
    · have hk := hK s hs5
      rcases hk with hk | ⟨vs, n', m', a1, a2, a3, a4, a5⟩
      · rw [hk] at h1
        have : kishr 0 2 = 0 := by decide
        rw [this] at h1
        have := pw_pos n
        have : 0 < 8 ^ n := Nat.pow_pos (by omega)
        omega
      · have g8 : ∀ k, k < n' → vs k < 8 := fun k hk => by have := a4 k hk; omega
        have hb' := kyw_b (ws := vs) a2 a3 n' g8
        have hp6' : 8 ^ n' ≤ 8 ^ 6 := Nat.pow_le_pow_right (by omega) a1
        have e6 : (8 : Nat) ^ 6 = 262144 := by decide
        have ho' := out_lt (xs := xs) (ws := vs) (n := n') (m := m')
        rw [a5, kshr2 (by omega)] at h1
        have e : kyw ws m n = kyw vs m' n' := by omega
        have en := kyw_L hm2 hm a2 a3 h8 g8 e
        subst en
        obtain ⟨em, ew⟩ := kyw_eq n h8 g8 e
        subst em
        rw [a5, kand3' (by omega), ← out_cg ew]
        rw [show (4 * kyw vs m n + out xs ws n m) % 4 = out xs ws n m by omega]
        exact h I hK (kfr.rf _ _ _)
    · have e2 : J1 34 (s : Int) = ((4 * kyw ws m n + out xs ws n m : Nat) : Int) := by rw [e1, kst_s, kor4 (by omega) (by omega)]
      rw [e2, kand3' (by omega), show (4 * kyw ws m n + out xs ws n m) % 4 = out xs ws n m by omega]
      refine h J1 (fun t ht => ?_) (fun a k hk => by rw [e1, kst_n (by omega)]; exact hf a k (by omega))
      by_cases hts : t = s
      · subst hts
        exact Or.inr ⟨ws, n, m, hn, hm2, hm, fun k hk => (hw k hk).2, e2⟩
      · rw [e1, kst_n (by omega), hf _ _ (by omega)]; exact hK t ht
  refine b_Shaker_outcome_0 ?_
  refine loop_up (n := n) (W := fun k => kWP xs true (d + 4) 0 0 67 5 [(0, 14, 0, 20), (1, 0, 0, (n : Int)), (2, 0, 0, (m : Int)), (3, 0, 0, (kyw ws m k : Int)), (4, 0, 0, (k : Int))] [] G I Q) fin ?_ (Nat.zero_le _)
  intro k hk ih
  have hbk := kyw_b (ws := ws) hm2 hm k (fun j hj => h8 j (by omega))
  have hpk : 8 ^ k ≤ 8 ^ 6 := Nat.pow_le_pow_right (by omega) (by omega)
  have e6 : (8 : Nat) ^ 6 = 262144 := by decide
  have hwk := hw k hk
  refine b_Shaker_outcome_5 ⟨fun hh => by omega, fun _ => ⟨fun hh => by omega, fun _ => ⟨by omega, ?_⟩⟩⟩
  rw [hwk.1, w32_id (x := 8 * (kyw ws m k : Int)) (by omega) (by omega), w32_id (x := 8 * (kyw ws m k : Int) + (ws k : Int)) (by omega) (by omega), w32_id (x := (k : Int) + 1) (by omega) (by omega)]
  exact ih
