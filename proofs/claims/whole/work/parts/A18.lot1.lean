/-! LOTS: all words are small words with signs -/
def mxW (q : Nat) : Nat → Nat → Nat → Nat
  | 0, _, _ => 0
  | L + 1, s, b => (2 * (s % q) + b % 2) + 2 * q * mxW q L (s / q) (b / 2)
theorem mxW_lt {q : Nat} (hq : 0 < q) : ∀ L s b, mxW q L s b < (2 * q) ^ L
  | 0, s, b => by unfold mxW; simp
  | L + 1, s, b => by
    have ih := mxW_lt hq L (s / q) (b / 2)
    have h1 : s % q < q := Nat.mod_lt _ hq
    have h2 : b % 2 < 2 := Nat.mod_lt _ (by omega)
    unfold mxW
    rw [Nat.pow_succ]
    have h3 : 2 * q * mxW q L (s / q) (b / 2) + 2 * q ≤ (2 * q) ^ L * (2 * q) := by
      rw [Nat.mul_comm ((2 * q) ^ L) (2 * q), ← Nat.mul_succ]
      exact Nat.mul_le_mul_left _ ih
    omega
theorem mxW_d {q : Nat} (hq : 0 < q) : ∀ L k s b, k < L → mxW q L s b / (2 * q) ^ k % (2 * q) = 2 * (s / q ^ k % q) + b / 2 ^ k % 2
  | 0, k, s, b, h => absurd h (Nat.not_lt_zero k)
  | L + 1, 0, s, b, _ => by
    have h1 : s % q < q := Nat.mod_lt _ hq
    have h2 : b % 2 < 2 := Nat.mod_lt _ (by omega)
    unfold mxW
    rw [Nat.pow_zero, Nat.pow_zero, Nat.pow_zero, Nat.div_one, Nat.div_one, Nat.div_one, Nat.add_mul_mod_self_left, Nat.mod_eq_of_lt (by omega)]
  | L + 1, k + 1, s, b, h => by
    have ih := mxW_d hq L k (s / q) (b / 2) (by omega)
    have h1 : s % q < q := Nat.mod_lt _ hq
    have h2 : b % 2 < 2 := Nat.mod_lt _ (by omega)
    have e : mxW q (L + 1) s b / (2 * q) = mxW q L (s / q) (b / 2) := by
      show ((2 * (s % q) + b % 2) + 2 * q * mxW q L (s / q) (b / 2)) / (2 * q) = _
      rw [Nat.add_mul_div_left _ _ (by omega), Nat.div_eq_of_lt (by omega), Nat.zero_add]
    rw [Nat.pow_succ, Nat.mul_comm ((2 * q) ^ k), ← Nat.div_div_eq_div_mul, e, ih]
    rw [Nat.pow_succ, Nat.mul_comm (q ^ k), ← Nat.div_div_eq_div_mul, Nat.pow_succ, Nat.mul_comm (2 ^ k), ← Nat.div_div_eq_div_mul]
/-- numbers with like digits are alike -/
theorem dgt_eq {q : Nat} (hq : 0 < q) : ∀ L s t, s < q ^ L → t < q ^ L → (∀ k, k < L → s / q ^ k % q = t / q ^ k % q) → s = t
  | 0, s, t, hs, ht, _ => by simp at hs ht; omega
  | L + 1, s, t, hs, ht, h => by
    have h0 := h 0 (by omega)
    rw [Nat.pow_zero, Nat.div_one, Nat.div_one] at h0
    rw [Nat.pow_succ, Nat.mul_comm] at hs ht
    have := dgt_eq hq L (s / q) (t / q) (Nat.div_lt_of_lt_mul hs) (Nat.div_lt_of_lt_mul ht) (fun k hk => by
      have := h (k + 1) (by omega)
      rw [Nat.pow_succ, Nat.mul_comm (q ^ k), ← Nat.div_div_eq_div_mul, ← Nat.div_div_eq_div_mul] at this
      exact this)
    have e1 := Nat.div_add_mod s q
    have e2 := Nat.div_add_mod t q
    rw [this, h0] at e1
    omega
theorem sm_app (f : Nat → Int) (a : Nat) : ∀ c, sm f (a + c) = sm f a + sm (fun x => f (a + x)) c
  | 0 => by show sm f a = sm f a + 0; omega
  | c + 1 => by
    show sm f (a + c) + f (a + c) = sm f a + (sm (fun x => f (a + x)) c + f (a + c))
    rw [sm_app f a c]; omega
theorem sm_pr (f : Nat → Int) (c : Nat) : ∀ a, sm f (a * c) = sm (fun s => sm (fun b => f (s * c + b)) c) a
  | 0 => by rw [Nat.zero_mul]; rfl
  | a + 1 => by
    rw [Nat.succ_mul, sm_app, sm_pr f c a]
    rfl
/-- over all words: over small words, then over signs -/
theorem sm_words {q : Nat} (hq : 0 < q) (L : Nat) (f : Nat → Int) : sm f ((2 * q) ^ L) = sm (fun s => sm (fun b => f (mxW q L s b)) (2 ^ L)) (q ^ L) := by
  have hN : (2 * q) ^ L = q ^ L * 2 ^ L := by rw [Nat.mul_pow, Nat.mul_comm]
  have h2 : 0 < 2 ^ L := Nat.two_pow_pos L
  have h1 := sm_re (f := f) (n := (2 * q) ^ L) (fun x => mxW q L (x / 2 ^ L) (x % 2 ^ L)) (fun x _ => mxW_lt hq L _ _) (fun x y hx hy e => by
    have hd : ∀ k, k < L → 2 * (x / 2 ^ L / q ^ k % q) + x % 2 ^ L / 2 ^ k % 2 = 2 * (y / 2 ^ L / q ^ k % q) + y % 2 ^ L / 2 ^ k % 2 := fun k hk => by
      rw [← mxW_d hq L k _ _ hk, ← mxW_d hq L k _ _ hk]
      have e : mxW q L (x / 2 ^ L) (x % 2 ^ L) = mxW q L (y / 2 ^ L) (y % 2 ^ L) := e
      rw [e]
    rw [hN] at hx hy
    have es := dgt_eq hq L (x / 2 ^ L) (y / 2 ^ L) (Nat.div_lt_of_lt_mul (by rw [Nat.mul_comm]; exact hx)) (Nat.div_lt_of_lt_mul (by rw [Nat.mul_comm]; exact hy)) (fun k hk => by have := hd k hk; omega)
    have eb := dgt_eq (q := 2) (by omega) L (x % 2 ^ L) (y % 2 ^ L) (Nat.mod_lt _ h2) (Nat.mod_lt _ h2) (fun k hk => by have := hd k hk; omega)
    rw [← Nat.div_add_mod x (2 ^ L), ← Nat.div_add_mod y (2 ^ L), es, eb])
  rw [← h1, hN, sm_pr]
  refine sm_cg (fun s hs => sm_cg (fun b hb => ?_))
  rw [Nat.mul_comm s, Nat.mul_add_div h2, Nat.div_eq_of_lt hb, Nat.add_zero, Nat.mul_add_mod, Nat.mod_eq_of_lt hb]
/-! words of like places -/
theorem us_cg {ws vs : Nat → Nat} {n : Nat} (h : ∀ k, k < n → ws k / 2 = vs k / 2) : us ws n = us vs n := List.map_congr_left (fun k hk => h k (List.mem_range.mp hk))
theorem clO_cg {ws vs : Nat → Nat} {n m : Nat} (h : ∀ k, k < n → ws k / 2 = vs k / 2) : clO ws n m = clO vs n m := by
  have e2 : ∀ (ws : Nat → Nat) k, (clS ws n k).2 = (tcl (us ws n) k).2 := fun ws k => by
    have h := rlT_c ws n k
    unfold rlT at h
    rw [h]
  have : clf ws n m = clf vs n m := by
    unfold clf
    congr 1
    funext k
    rw [e2, e2, us_cg h]
  unfold clO
  rw [this]
theorem clP_pcx {ws vs : Nat → Nat} {n m : Nat} (h : ∀ k, k < n → ws k / 2 = vs k / 2) : (clP ws n m).1.map Prod.fst = (clP vs n m).1.map Prod.fst ∧ (clP ws n m).2.length = (clP vs n m).2.length := by
  have e1 : ∀ (ws : Nat → Nat) k, nms (clS ws n k).1 = (tcl (us ws n) k).1.reverse.map (fun c => c / 2) := fun ws k => by
    have h := rlT_c ws n k
    unfold rlT at h
    rw [h]
    unfold nms
    rw [List.map_map]; rfl
  have e2 : ∀ (ws : Nat → Nat) k, (clS ws n k).2 = (tcl (us ws n) k).2 := fun ws k => by
    have h := rlT_c ws n k
    unfold rlT at h
    rw [h]
  have ef : clf ws n m = clf vs n m := by
    unfold clf
    congr 1
    funext k
    rw [e2, e2, us_cg h]
  unfold clP
  refine ⟨?_, ?_⟩
  · rw [bld_nm, bld_nm, e1, e1, us_cg h, ef]
  · rw [(bld_all _).2.1, (bld_all _).2.1, e1, e1, us_cg h, ef]
theorem clP_val {xs : KS} {ws vs : Nat → Nat} {n m : Nat} (h : ∀ k, k < n → ws k / 2 = vs k / 2) (pl : Nat) : val xs (clP ws n m) pl = val xs (clP vs n m) pl := by
  obtain ⟨a, b⟩ := clP_pcx (m := m) h
  have hl : (clP ws n m).1.length = (clP vs n m).1.length := by
    have := congrArg List.length a
    rw [List.length_map, List.length_map] at this
    exact this
  exact val_cg b hl (funext (fun k => by rw [pcx_nm, pcx_nm, a])) pl
/-- signs of a closed word -/
theorem clP_sg {ws : Nat → Nat} {n m : Nat} (hm2 : 2 ≤ m) (hm : m ≤ 4) (hn : n ≤ 7) (hw : ∀ k, k < n → ws k < 2 * m - 2) (hO : clO ws n m = true) : (clP ws n m).2 = (nubF [] (nms (clS ws n m).1)).map (fun i => decide (ws i % 2 = 0)) := by
  obtain ⟨_, l2, _, _⟩ := cls_nm hm2 hm hn hw hO
  have h1 := bldF_sg (fun i => decide (ws i % 2 = 0)) (clS ws n m).1 bs0 (fun q hq => (l2 q hq).2) rfl
  unfold clP
  rw [clP_l hO, h1, (bld_all _).1]
theorem nms_cg {ws vs : Nat → Nat} {n : Nat} (h : ∀ k, k < n → ws k / 2 = vs k / 2) (k : Nat) : nms (clS ws n k).1 = nms (clS vs n k).1 := by
  have e1 : ∀ (ws : Nat → Nat) k, nms (clS ws n k).1 = (tcl (us ws n) k).1.reverse.map (fun c => c / 2) := fun ws k => by
    have h := rlT_c ws n k
    unfold rlT at h
    rw [h]
    unfold nms
    rw [List.map_map]; rfl
  rw [e1, e1, us_cg h]
/-- letters of the word of a number -/
def ltw (q w k : Nat) : Nat := w / (2 * q) ^ k % (2 * q)
theorem ltw_mx {q L k s b : Nat} (hq : 0 < q) (hk : k < L) : ltw q (mxW q L s b) k = wdg q s k + b / 2 ^ k % 2 := by
  unfold ltw wdg
  rw [mxW_d hq L k s b hk]
/-- what a word of the model's counts -/
def mcw (xs : KS) (ps : List Pic) (m L : Nat) (what : Int) (ws : Nat → Nat) : Int := if clO ws L m = true then (if what = -2 then 1 else if wnt xs ps what (pv xs (clP ws L m)) = true then 1 else 0) else 0
theorem cwA_sm (xs : KS) (P : Pic) (t : (Nat → Int) → Bool) : ∀ j, (cwA xs P t j : Int) = sm (fun pl => if t (val xs P pl) = true then 1 else 0) j
  | 0 => rfl
  | j + 1 => by
    show ((cwA xs P t j + (if t (val xs P j) = true then 1 else 0) : Nat) : Int) = sm _ j + (if t (val xs P j) = true then 1 else 0)
    rw [← cwA_sm xs P t j]
    by_cases h : t (val xs P j) = true
    · rw [if_pos h, if_pos h]; omega
    · rw [if_neg h, if_neg h]; omega
theorem ltA_sm (xs : KS) (ps : List Pic) (m L : Nat) (what : Int) : ∀ N, (ltA xs ps m L what N : Int) = sm (fun w => if clO (wdg (m - 1) w) L m = true then (cwW xs ps (clP (wdg (m - 1) w) L m) what : Int) else 0) N
  | 0 => rfl
  | N + 1 => by
    show ((ltA xs ps m L what N + (if clO (wdg (m - 1) N) L m = true then cwW xs ps (clP (wdg (m - 1) N) L m) what else 0) : Nat) : Int) = sm _ N + (if clO (wdg (m - 1) N) L m = true then (cwW xs ps (clP (wdg (m - 1) N) L m) what : Int) else 0)
    rw [← ltA_sm xs ps m L what N]
    by_cases h : clO (wdg (m - 1) N) L m = true
    · rw [if_pos h, if_pos h]; omega
    · rw [if_neg h, if_neg h]; omega
theorem sm_one (c : Int) : ∀ n : Nat, sm (fun _ => c) n = c * n
  | 0 => by show (0 : Int) = c * ((0 : Nat) : Int); simp
  | n + 1 => by
    show sm (fun _ => c) n + c = c * ((n + 1 : Nat) : Int)
    rw [sm_one c n, show ((n + 1 : Nat) : Int) = (n : Int) + 1 by omega, Int.mul_add, Int.mul_one]
theorem bit_dm (b k : Nat) : b.testBit k = decide (b / 2 ^ k % 2 = 1) := by
  rw [Nat.testBit_eq_decide_div_mod_eq]
/-- all signs of one small word -/
theorem lot_signs {xs : KS} {ps : List Pic} {m L s : Nat} {what : Int} (hm2 : 2 ≤ m) (hm : m ≤ 4) (hL : L ≤ 7) : sm (fun b => mcw xs ps m L what (ltw (m - 1) (mxW (m - 1) L s b))) (2 ^ L) = if clO (wdg (m - 1) s) L m = true then (cwW xs ps (clP (wdg (m - 1) s) L m) what : Int) else 0 := by
  have hq : 0 < m - 1 := by omega
  have hdm : ∀ b k, b / 2 ^ k % 2 < 2 := fun b k => Nat.mod_lt _ (by omega)
  have hlt : ∀ b k, k < L → ltw (m - 1) (mxW (m - 1) L s b) k = wdg (m - 1) s k + b / 2 ^ k % 2 := fun b k hk => ltw_mx hq hk
  have hh : ∀ b k, k < L → ltw (m - 1) (mxW (m - 1) L s b) k / 2 = wdg (m - 1) s k / 2 := fun b k hk => by
    rw [hlt b k hk]
    have := hdm b k
    unfold wdg
    omega
  have hr : ∀ b k, k < L → ltw (m - 1) (mxW (m - 1) L s b) k < 2 * m - 2 := fun b k hk => by
    unfold ltw
    have := Nat.mod_lt (mxW (m - 1) L s b / (2 * (m - 1)) ^ k) (show 0 < 2 * (m - 1) by omega)
    omega
  cases hO : clO (wdg (m - 1) s) L m with
  | false =>
    rw [if_neg (by simp)]
    exact sm_0 (fun b _ => by
      unfold mcw
      rw [if_neg (by rw [clO_cg (hh b), hO]; simp)])
  | true =>
    rw [if_pos rfl]
    have hOb : ∀ b, clO (ltw (m - 1) (mxW (m - 1) L s b)) L m = true := fun b => by rw [clO_cg (hh b)]; exact hO
    have hws : ∀ k, k < L → wdg (m - 1) s k < 2 * m - 2 := fun k hk => by
      unfold wdg
      have := Nat.mod_lt (s / (m - 1) ^ k) hq
      omega
    obtain ⟨_, _, l3, _⟩ := cls_nm hm2 hm hL hws hO
    have hD3 : ∀ x, x ∈ nubF [] (nms (clS (wdg (m - 1) s) L m).1) ↔ x < L := fun x => by
      rw [nubF_mem]
      unfold nms
      rw [l3 x]; simp
    have hDl : (nubF [] (nms (clS (wdg (m - 1) s) L m).1)).length = L := nub_len (fun x => by unfold nms; exact l3 x)
    have hPl : (clP (wdg (m - 1) s) L m).2.length = L := by
      unfold clP
      rw [clP_l hO, (bld_all _).2.1, hDl]
    have hsg : ∀ b, (clP (ltw (m - 1) (mxW (m - 1) L s b)) L m).2 = (nubF [] (nms (clS (wdg (m - 1) s) L m).1)).map (fun i => decide (ltw (m - 1) (mxW (m - 1) L s b) i % 2 = 0)) := fun b => by
      rw [clP_sg hm2 hm hL (hr b) (hOb b), nms_cg (hh b)]
    unfold cwW
    by_cases hw2 : what = -2
    · rw [if_pos hw2, hPl]
      rw [sm_cg (g := fun _ => 1) (fun b _ => by unfold mcw; rw [if_pos (hOb b), if_pos hw2]), sm_one]
      omega
    · rw [if_neg hw2, hPl, cwA_sm]
      rw [sm_cg (g := fun b => (fun pl => if wnt xs ps what (val xs (clP (wdg (m - 1) s) L m) pl) = true then (1 : Int) else 0) (plm ((nubF [] (nms (clS (wdg (m - 1) s) L m).1)).map (fun i => decide (ltw (m - 1) (mxW (m - 1) L s b) i % 2 = 0))))) (fun b _ => by
        unfold mcw pv
        rw [if_pos (hOb b), if_neg hw2, hsg b, clP_val (hh b)])]
      refine sm_re (f := fun pl => if wnt xs ps what (val xs (clP (wdg (m - 1) s) L m) pl) = true then (1 : Int) else 0) (fun b => plm ((nubF [] (nms (clS (wdg (m - 1) s) L m).1)).map (fun i => decide (ltw (m - 1) (mxW (m - 1) L s b) i % 2 = 0)))) (fun b _ => ?_) (fun b c hb hc e => ?_)
      · have := plm_lt ((nubF [] (nms (clS (wdg (m - 1) s) L m).1)).map (fun i => decide (ltw (m - 1) (mxW (m - 1) L s b) i % 2 = 0)))
        rw [List.length_map, hDl] at this
        exact this
      · refine Nat.eq_of_testBit_eq (fun i => ?_)
        by_cases hi : i < L
        · have hm := (hD3 i).mpr hi
          have hix := List.idxOf_lt_length_of_mem hm
          have hat := idx_at hm
          have e3 := congrArg (fun x => x.testBit ((nubF [] (nms (clS (wdg (m - 1) s) L m).1)).idxOf i)) e
          simp only [plm_bit] at e3
          generalize nubF [] (nms (clS (wdg (m - 1) s) L m).1) = D at *
          have g : ∀ f : Nat → Bool, (D.map f).getD (D.idxOf i) false = f i := fun f => by
            rw [List.getD_eq_getElem?_getD, List.getElem?_map, List.getElem?_eq_getElem hix]
            rw [List.getD_eq_getElem?_getD, List.getElem?_eq_getElem hix] at hat
            have hat : D[D.idxOf i] = i := hat
            rw [hat]; rfl
          rw [g, g, hlt b i hi, hlt c i hi] at e3
          rw [bit_dm, bit_dm]
          have e4 := decide_eq_decide.mp e3
          have := hdm b i
          have := hdm c i
          unfold wdg at e4
          refine decide_eq_decide.mpr ?_
          omega
        · have hp : 2 ^ L ≤ 2 ^ i := Nat.pow_le_pow_right (by omega) (by omega)
          rw [Nat.testBit_lt_two_pow (by omega), Nat.testBit_lt_two_pow (by omega)]
theorem lot_all {xs : KS} {ps : List Pic} {m L : Nat} {what : Int} (hm2 : 2 ≤ m) (hm : m ≤ 4) (hL : L ≤ 7) : sm (fun w => mcw xs ps m L what (ltw (m - 1) w)) ((2 * (m - 1)) ^ L) = (ltA xs ps m L what ((m - 1) ^ L) : Int) := by
  rw [sm_words (by omega), ltA_sm]
  exact sm_cg (fun s _ => lot_signs hm2 hm hL)
