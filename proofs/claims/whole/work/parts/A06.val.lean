/-! SUMS over ways -/
def sm (f : Nat → Int) : Nat → Int
  | 0 => 0
  | n + 1 => sm f n + f n
theorem sm_add (f g : Nat → Int) : ∀ n, sm (fun x => f x + g x) n = sm f n + sm g n
  | 0 => rfl
  | n + 1 => by
    show sm (fun x => f x + g x) n + (f n + g n) = (sm f n + f n) + (sm g n + g n)
    rw [sm_add f g n]; omega
theorem sm_mul (c : Int) (f : Nat → Int) : ∀ n, sm (fun x => c * f x) n = c * sm f n
  | 0 => by show (0 : Int) = c * 0; rw [Int.mul_zero]
  | n + 1 => by
    show sm (fun x => c * f x) n + c * f n = c * (sm f n + f n)
    rw [sm_mul c f n, Int.mul_add]
theorem sm_cg {f g : Nat → Int} : ∀ {n}, (∀ x, x < n → f x = g x) → sm f n = sm g n
  | 0, _ => rfl
  | n + 1, h => by
    show sm f n + f n = sm g n + g n
    rw [sm_cg (fun x hx => h x (by omega)), h n (by omega)]
theorem sm_0 {f : Nat → Int} : ∀ {n}, (∀ x, x < n → f x = 0) → sm f n = 0
  | 0, _ => rfl
  | n + 1, h => by
    show sm f n + f n = 0
    rw [sm_0 (fun x hx => h x (by omega)), h n (by omega)]; rfl
theorem sm_dl {c : Nat → Int} {a : Nat} : ∀ {n}, a < n → sm (fun x => if x = a then c x else 0) n = c a
  | 0, h => absurd h (Nat.not_lt_zero a)
  | n + 1, h => by
    show sm (fun x => if x = a then c x else 0) n + (if n = a then c n else 0) = c a
    by_cases e : n = a
    · subst e
      rw [if_pos rfl, sm_0 (fun x hx => by rw [if_neg (by omega)])]; omega
    · rw [if_neg e, sm_dl (by omega)]; omega
theorem sm_b {f : Nat → Int} {b : Int} : ∀ {n : Nat}, (∀ x, x < n → -b ≤ f x ∧ f x ≤ b) → -(b * n) ≤ sm f n ∧ sm f n ≤ b * n
  | 0, _ => by show -(b * ((0 : Nat) : Int)) ≤ 0 ∧ 0 ≤ b * ((0 : Nat) : Int); simp
  | n + 1, h => by
    have ih := sm_b (n := n) (fun x hx => h x (by omega))
    have := h n (by omega)
    show _ ≤ sm f n + f n ∧ sm f n + f n ≤ _
    rw [show ((n + 1 : Nat) : Int) = (n : Int) + 1 by omega, Int.mul_add, Int.mul_one]
    omega
def ls (l : List Int) : Int := l.foldr (fun x y => x + y) 0
theorem ls_perm {l m : List Int} (h : l.Perm m) : ls l = ls m := by
  induction h with
  | nil => rfl
  | cons x _ ih => show x + ls _ = x + ls _; rw [ih]
  | swap x y l => show y + (x + ls l) = x + (y + ls l); omega
  | trans _ _ a b => exact a.trans b
theorem ls_app (a b : List Int) : ls (a ++ b) = ls a + ls b := by
  induction a with
  | nil => show ls b = 0 + ls b; omega
  | cons x a ih => show x + ls (a ++ b) = (x + ls a) + ls b; rw [ih]; omega
theorem sm_ls (f : Nat → Int) : ∀ n, sm f n = ls ((List.range n).map f)
  | 0 => rfl
  | n + 1 => by
    rw [List.range_succ, List.map_append, ls_app, ← sm_ls f n]
    show sm f n + f n = sm f n + (f n + 0)
    omega
/-- a sum taken in another order -/
theorem sm_re {f : Nat → Int} {n : Nat} (p : Nat → Nat) (hp : ∀ x, x < n → p x < n) (hi : ∀ x y, x < n → y < n → p x = p y → x = y) : sm (fun x => f (p x)) n = sm f n := by
  have hnd : ((List.range n).map p).Nodup := nodup_map List.nodup_range (fun a ha b hb e => hi a b (List.mem_range.mp ha) (List.mem_range.mp hb) e)
  have hsub : ∀ y, y < n → y ∈ (List.range n).map p := fun y hy => by
    refine Classical.byContradiction (fun hn => ?_)
    have h1 : (y :: (List.range n).map p).Nodup := List.nodup_cons.mpr ⟨hn, hnd⟩
    have := nd_le n _ h1 (fun x hx => by
      rcases List.mem_cons.mp hx with e | hx
      · rw [e]; exact hy
      · obtain ⟨z, hz, rfl⟩ := List.mem_map.mp hx
        exact hp z (List.mem_range.mp hz))
    simp at this
    omega
  have hperm : ((List.range n).map p).Perm (List.range n) := (List.perm_ext_iff_of_nodup hnd List.nodup_range).mpr (fun y => ⟨fun hy => by
    obtain ⟨z, hz, rfl⟩ := List.mem_map.mp hy
    exact List.mem_range.mpr (hp z (List.mem_range.mp hz)), fun hy => hsub y (List.mem_range.mp hy)⟩)
  rw [sm_ls, sm_ls, ← ls_perm (hperm.map f), List.map_map]
  rfl
theorem sm_xor {f : Nat → Int} {n a : Nat} (ha : a < 2 ^ n) : sm (fun x => f (x ^^^ a)) (2 ^ n) = sm f (2 ^ n) :=
  sm_re (fun x => x ^^^ a) (fun x hx => Nat.xor_lt_two_pow hx ha) (fun x y _ _ e => by
    have : x ^^^ a ^^^ a = y ^^^ a ^^^ a := by rw [e]
    rw [Nat.xor_assoc, Nat.xor_assoc, Nat.xor_self, Nat.xor_zero, Nat.xor_zero] at this
    exact this)
/-! THE VALUE as a sum over ways -/
/-- the table of choices -/
def XCh (xs : KS) : Prop := ∀ t i : Nat, t < 8 → i ≤ t → (xs 0).2 (8 * (t : Int) + (i : Int)) = (chs t i : Int)
/-- one way: n crossings, p with sign 1, j in the other way, R rings -/
def tmV (xs : KS) (n p j R : Nat) (k : Int) : Int := sprT xs (sgn2 (n + (R - 1)) 1) (2 * (n : Int) - (j : Int) - 3 * (p : Int) + 21) (R - 1) R k
def vsm (xs : KS) (P : Pic) (pl : Nat) (k : Int) : Int := sm (fun g => tmV xs P.2.length (npop pl) (npop (g ^^^ pl)) (rings P g) k) (2 ^ P.2.length)
theorem sprT_mul (xs : KS) (c sg b : Int) (t : Nat) (k : Int) : ∀ i, sprT xs (c * sg) b t i k = c * sprT xs sg b t i k
  | 0 => by show (0 : Int) = c * 0; rw [Int.mul_zero]
  | i + 1 => by
    show sprT xs (c * sg) b t i k + _ = c * (sprT xs sg b t i k + _)
    rw [sprT_mul xs c sg b t k i, Int.mul_add]
    split
    · rw [Int.mul_assoc]
    · rw [Int.mul_zero]
theorem sgn2_mul (n : Nat) (v : Int) : sgn2 n v = v * sgn2 n 1 := by
  unfold sgn2
  split
  · rw [Int.mul_one]
  · omega
/-- what one tally counts for -/
def tlc (xs : KS) (n p a : Nat) (k : Int) : Int := sprT xs (sgn2 (n + a % 8) 1) (2 * (n : Int) - (a / 8 : Nat) - 3 * (p : Int) + 21) (a % 8) (a % 8 + 1) k
theorem smA_t (xs : KS) (P : Pic) (pl : Nat) (k : Int) : ∀ a, smA xs P pl a k = sm (fun a => (tly P pl a (2 ^ P.2.length) : Int) * tlc xs P.2.length (npop pl) a k) a
  | 0 => rfl
  | a + 1 => by
    show smA xs P pl a k + _ = sm _ a + _
    rw [smA_t xs P pl k a]
    congr 1
    unfold tlc
    split
    · rw [sgn2_mul, sprT_mul]
    · rename_i h
      have : tly P pl a (2 ^ P.2.length) = 0 := by omega
      show 0 = (tly P pl a (2 ^ P.2.length) : Int) * _
      rw [this]
      simp
theorem smA_v {xs : KS} {P : Pic} {pl : Nat} (hn : P.2.length ≤ 7) (hR : RgOk P) (hpl : pl < 2 ^ P.2.length) (k : Int) : smA xs P pl 64 k = vsm xs P pl k := by
  rw [smA_t]
  unfold vsm
  have key : ∀ j, j ≤ 2 ^ P.2.length → sm (fun a => (tly P pl a j : Int) * tlc xs P.2.length (npop pl) a k) 64 = sm (fun g => tmV xs P.2.length (npop pl) (npop (g ^^^ pl)) (rings P g) k) j := by
    intro j
    induction j with
    | zero =>
      intro _
      exact sm_0 (fun x _ => by show ((0 : Nat) : Int) * _ = 0; simp)
    | succ j ih =>
      intro hj
      have hr := hR j (by omega)
      have hx2 : j ^^^ pl < 2 ^ P.2.length := Nat.xor_lt_two_pow (by omega) hpl
      have hw7 : 2 ^ P.2.length ≤ 2 ^ 7 := Nat.pow_le_pow_right (by omega) hn
      have hpg := npop_len P.2.length (by omega) (j ^^^ pl) (by omega) hx2
      show _ = sm (fun g => tmV xs P.2.length (npop pl) (npop (g ^^^ pl)) (rings P g) k) j + tmV xs P.2.length (npop pl) (npop (j ^^^ pl)) (rings P j) k
      rw [← ih (by omega)]
      obtain ⟨a0, h0⟩ : ∃ a0, 8 * npop (j ^^^ pl) + rings P j = a0 + 1 := ⟨8 * npop (j ^^^ pl) + rings P j - 1, by omega⟩
      have e1 : ∀ a, (tly P pl a (j + 1) : Int) * tlc xs P.2.length (npop pl) a k = (tly P pl a j : Int) * tlc xs P.2.length (npop pl) a k + (if a = a0 then tlc xs P.2.length (npop pl) a k else 0) := fun a => by
        have e2 : tly P pl a (j + 1) = tly P pl a j + (if 8 * npop (j ^^^ pl) + rings P j = a + 1 then 1 else 0) := rfl
        rw [e2]
        by_cases ha : a = a0
        · rw [if_pos (by omega), if_pos ha, show ((tly P pl a j + 1 : Nat) : Int) = (tly P pl a j : Int) + 1 by omega, Int.add_mul, Int.one_mul]
        · rw [if_neg (by omega), if_neg ha, Nat.add_zero, Int.add_zero]
      rw [sm_cg (fun a _ => e1 a), sm_add, sm_dl (by omega)]
      congr 1
      unfold tlc tmV
      rw [show a0 / 8 = npop (j ^^^ pl) by omega, show a0 % 8 = rings P j - 1 by omega, show rings P j - 1 + 1 = rings P j by omega]
  exact key _ (Nat.le_refl _)
theorem sprT_b {xs : KS} (hx : XCh xs) {sg b : Int} {t : Nat} (hs : sg = 1 ∨ sg = -1) (ht : t < 8) (k : Int) : ∀ i : Nat, i ≤ t + 1 → -(35 * (i : Int)) ≤ sprT xs sg b t i k ∧ sprT xs sg b t i k ≤ 35 * (i : Int)
  | 0, _ => by unfold sprT; omega
  | i + 1, hi => by
    have ih := sprT_b hx (b := b) hs ht k i (by omega)
    have h1 := hx t i ht (by omega)
    have h2 := chs_le t ht i (by omega)
    have e : sprT xs sg b t (i + 1) k = sprT xs sg b t i k + (if k = b + t - 2 * i then sg * (xs 0).2 (8 * (t : Int) + i) else 0) := rfl
    rw [e, h1]
    split
    · rcases hs with rfl | rfl <;> omega
    · omega
theorem sgn2_1 (n : Nat) : sgn2 n 1 = 1 ∨ sgn2 n 1 = -1 := by unfold sgn2; split <;> simp
theorem tmV_b {xs : KS} (hx : XCh xs) {n p j R : Nat} (hR : 1 ≤ R ∧ R ≤ 8) (k : Int) : -280 ≤ tmV xs n p j R k ∧ tmV xs n p j R k ≤ 280 := by
  have := sprT_b hx (b := 2 * (n : Int) - (j : Int) - 3 * (p : Int) + 21) (sgn2_1 (n + (R - 1))) (show R - 1 < 8 by omega) k R (by omega)
  unfold tmV
  omega
theorem vsm_b {xs : KS} (hx : XCh xs) {P : Pic} (hn : P.2.length ≤ 7) (hR : RgOk P) (pl : Nat) (k : Int) : -35840 ≤ vsm xs P pl k ∧ vsm xs P pl k ≤ 35840 := by
  have h1 := sm_b (f := fun g => tmV xs P.2.length (npop pl) (npop (g ^^^ pl)) (rings P g) k) (b := 280) (n := 2 ^ P.2.length) (fun g hg => tmV_b hx (hR g hg) k)
  have hw7 : 2 ^ P.2.length ≤ 2 ^ 7 := Nat.pow_le_pow_right (by omega) hn
  unfold vsm
  generalize 2 ^ P.2.length = N at *
  omega
theorem val_v {xs : KS} (hx : XCh xs) {P : Pic} {pl : Nat} (hn : P.2.length ≤ 7) (hR : RgOk P) (hpl : pl < 2 ^ P.2.length) (k : Nat) : val xs P pl k = vsm xs P pl (k : Int) := by
  have := vsm_b hx hn hR pl (k : Int)
  unfold val
  rw [smA_v hn hR hpl, w32_id (by omega) (by omega)]
/-! THE MODEL'S SUM is the class's -/
theorem csT_spr {xs : KS} (hx : XCh xs) {m : Nat} (hm : m < 8) (tw b : Int) (k : Nat) : ∀ i, i ≤ m + 1 → csT tw m (2 * b - 42) i (18 + 2 * (k : Int)) = sprT xs tw b m i (k : Int)
  | 0, _ => rfl
  | i + 1, hi => by
    show csT tw m (2 * b - 42) i (18 + 2 * (k : Int)) + _ = sprT xs tw b m i (k : Int) + _
    rw [csT_spr hx hm tw b k i (by omega), hx m i hm (by omega)]
    congr 1
    by_cases h : (k : Int) = b + m - 2 * i
    · rw [if_pos (by omega), if_pos h]
    · rw [if_neg (by omega), if_neg h]
theorem csT_0 {tw p e : Int} {m : Nat} : ∀ i : Nat, (∀ i' : Nat, i' < i → e ≠ 60 + p + 2 * (m : Int) - 4 * (i' : Int)) → csT tw m p i e = 0
  | 0, _ => rfl
  | i + 1, h => by
    show csT tw m p i e + _ = 0
    rw [csT_0 i (fun i' hi' => h i' (by omega)), if_neg (h i (by omega))]; rfl
theorem ctm_v {xs : KS} (hx : XCh xs) {P : Pic} (hn : P.2.length ≤ 7) {w : Nat} (hl : 1 ≤ lps P w ∧ lps P w ≤ P.2.length + 1) (hw : w < 2 ^ P.2.length) (e : Nat) : ctm P (lps P) w (e : Int) = vx (fun k => tmV xs P.2.length (npop (plm P.2)) (npop w) (lps P w) (k : Int)) e := by
  have hw7 : 2 ^ P.2.length ≤ 2 ^ 7 := Nat.pow_le_pow_right (by omega) hn
  have hpw := npop_len P.2.length (by omega) w (by omega) hw
  have hpl := plm_lt P.2
  have hpp := npop_len P.2.length (by omega) (plm P.2) (by omega) hpl
  have hwr : wrh P = 2 * (npop (plm P.2) : Int) - P.2.length := by
    unfold wrh
    rw [npop_sg (s := plm P.2) hn (fun c _ => plm_bit P.2 c)]
  have htw : ctw P (lps P w - 1) = sgn2 (P.2.length + (lps P w - 1)) 1 := by
    unfold ctw trn sgn2
    rw [hwr]
    split <;> split <;> split <;> omega
  unfold ctm
  rw [htw, hwr, pc14_np w (by omega)]
  generalize lps P w = R at *
  generalize npop w = j at *
  generalize npop (plm P.2) = p at *
  generalize P.2.length = n at *
  have hpe : (n : Int) - 2 * (j : Int) - 3 * (2 * (p : Int) - (n : Int)) = 2 * (2 * (n : Int) - (j : Int) - 3 * (p : Int) + 21) - 42 := by omega
  rw [hpe]
  have hb : (2 * (n : Int) - (j : Int) - 3 * (p : Int) + 21) = 2 * (n : Int) - (j : Int) - 3 * (p : Int) + 21 := rfl
  unfold vx
  split
  · rename_i hc
    obtain ⟨k, rfl⟩ : ∃ k, e = 18 + 2 * k := ⟨(e - 18) / 2, by omega⟩
    rw [show (18 + 2 * k - 18) / 2 = k by omega, show ((18 + 2 * k : Nat) : Int) = 18 + 2 * (k : Int) by omega]
    exact csT_spr hx (by omega) _ _ k R (by omega)
  · rename_i hc
    exact csT_0 R (fun i' hi' hh => hc (by omega))
theorem cfA_v {xs : KS} (hx : XCh xs) {P : Pic} (hn : P.2.length ≤ 7) (hl : ∀ w, 1 ≤ lps P w ∧ lps P w ≤ P.2.length + 1) (e : Nat) : ∀ j, j ≤ 2 ^ P.2.length → cfA P (lps P) j (e : Int) = vx (fun k => sm (fun w => tmV xs P.2.length (npop (plm P.2)) (npop w) (lps P w) (k : Int)) j) e
  | 0, _ => by unfold vx; split <;> rfl
  | j + 1, hj => by
    show cfA P (lps P) j (e : Int) + ctm P (lps P) j (e : Int) = _
    rw [cfA_v hx hn hl e j (by omega), ctm_v hx hn (hl j) (by omega) e]
    unfold vx
    split
    · rfl
    · rfl
theorem cof_v {xs : KS} (hx : XCh xs) {P : Pic} (h : PicW P) (e : Nat) : cof P (e : Int) = vx (pv xs P) e := by
  have hpl := plm_lt P.2
  have hgw : ∀ w, gw P (w ^^^ plm P.2) w := fun w c hc => by
    rw [Nat.testBit_xor, plm_bit]
    show (w.testBit c ^^ psg P c) = _
    cases w.testBit c <;> cases psg P c <;> rfl
  have hl : ∀ w, 1 ≤ lps P w ∧ lps P w ≤ P.2.length + 1 := fun w => by
    rw [lps_rings h (hgw w)]
    exact rings_le h _
  unfold cof
  rw [cfA_v hx h.1 hl e _ (Nat.le_refl _)]
  unfold vx
  split
  · unfold pv val
    rw [smA_v h.1 h.rg hpl]
    congr 1
    unfold vsm
    simp only
    rw [← sm_xor (f := fun w => tmV xs P.2.length (npop (plm P.2)) (npop w) (lps P w) (((e - 18) / 2 : Nat) : Int)) hpl]
    refine sm_cg (fun g _ => ?_)
    have : gw P g (g ^^^ plm P.2) := fun c hc => by
      rw [Nat.testBit_xor, plm_bit]
      show _ = ((g.testBit c ^^ psg P c) != psg P c)
      cases g.testBit c <;> cases psg P c <;> rfl
    rw [lps_rings h this]
  · rfl
/-! THE SUM is never all 0 -/
theorem sm_sp {xs : KS} (sg b : Int) (t : Nat) : ∀ i : Nat, (∀ i' : Nat, i' < i → 0 ≤ b + t - 2 * (i' : Int) ∧ b + t - 2 * (i' : Int) < 43) → sm (fun k => sprT xs sg b t i (k : Int)) 43 = sg * sm (fun i' => (xs 0).2 (8 * (t : Int) + (i' : Int))) i
  | 0, _ => by
    have e : sm (fun k => sprT xs sg b t 0 (k : Int)) 43 = 0 := sm_0 (fun _ _ => rfl)
    rw [e]
    show 0 = sg * 0
    rw [Int.mul_zero]
  | i + 1, h => by
    have hi := h i (by omega)
    show sm (fun k => sprT xs sg b t i (k : Int) + (if (k : Int) = b + t - 2 * i then sg * (xs 0).2 (8 * (t : Int) + i) else 0)) 43 = sg * (sm _ i + (xs 0).2 (8 * (t : Int) + (i : Int)))
    rw [sm_add, sm_sp sg b t i (fun i' hi' => h i' (by omega)), Int.mul_add]
    congr 1
    obtain ⟨a, ha⟩ : ∃ a : Nat, (a : Int) = b + t - 2 * i := ⟨(b + t - 2 * i).toNat, by omega⟩
    rw [sm_cg (g := fun k => if k = a then sg * (xs 0).2 (8 * (t : Int) + i) else 0) (fun k _ => by
      by_cases hk : k = a
      · rw [if_pos (by omega), if_pos hk]
      · rw [if_neg (by omega), if_neg hk])]
    exact sm_dl (c := fun _ => sg * (xs 0).2 (8 * (t : Int) + i)) (by omega)
theorem tot3 : ∀ t, t < 8 → sm (fun i => (chs t i : Int)) (t + 1) % 3 = (if t % 2 = 0 then 1 else 2) := by decide +kernel
theorem tmV_3 {xs : KS} (hx : XCh xs) {n p j R : Nat} (hn : n ≤ 7) (hp : p ≤ n) (hj : j ≤ n) (hR : 1 ≤ R ∧ R ≤ n + 1) : sm (fun k => tmV xs n p j R (k : Int)) 43 % 3 = (if n % 2 = 0 then 1 else 2) := by
  obtain ⟨t, rfl⟩ : ∃ t, R = t + 1 := ⟨R - 1, by omega⟩
  unfold tmV
  rw [Nat.add_sub_cancel, sm_sp _ _ _ _ (fun i' hi' => by omega), sm_cg (g := fun i => (chs t i : Int)) (fun i hi => hx t i (by omega) (by omega))]
  have h3 := tot3 t (by omega)
  generalize sm (fun i => (chs t i : Int)) (t + 1) = s at *
  unfold sgn2
  split at h3 <;> split <;> split <;> omega
theorem sm_swap (f : Nat → Nat → Int) (N : Nat) : ∀ M, sm (fun k => sm (fun g => f g k) M) N = sm (fun g => sm (fun k => f g k) N) M
  | 0 => sm_0 (fun _ _ => rfl)
  | M + 1 => by
    show sm (fun k => sm (fun g => f g k) M + f M k) N = sm (fun g => sm (fun k => f g k) N) M + sm (fun k => f M k) N
    rw [sm_add, sm_swap f N M]
theorem sm_m3 {f : Nat → Int} {c : Int} : ∀ {n : Nat}, (∀ x, x < n → f x % 3 = c % 3) → sm f n % 3 = (n * c) % 3
  | 0, _ => by show (0 : Int) % 3 = (((0 : Nat) : Int) * c) % 3; simp
  | n + 1, h => by
    have ih := sm_m3 (n := n) (fun x hx => h x (by omega))
    have := h n (by omega)
    show (sm f n + f n) % 3 = _
    rw [show (((n + 1 : Nat) : Int) * c) = n * c + c by rw [show ((n + 1 : Nat) : Int) = (n : Int) + 1 by omega, Int.add_mul, Int.one_mul]]
    omega
theorem pw3 : ∀ n, n < 8 → (((2 ^ n : Nat) : Int) * (if n % 2 = 0 then 1 else 2)) % 3 = 1 := by decide +kernel
theorem pv_n0 {xs : KS} (hx : XCh xs) {P : Pic} (h : PicW P) : ∃ k, k < 43 ∧ pv xs P k ≠ 0 := by
  have hpl := plm_lt P.2
  have hn := h.1
  have hw7 : 2 ^ P.2.length ≤ 2 ^ 7 := Nat.pow_le_pow_right (by omega) hn
  have hpp := npop_len P.2.length (by omega) (plm P.2) (by omega) hpl
  refine Classical.byContradiction (fun hh => ?_)
  have hz : ∀ k, k < 43 → pv xs P k = 0 := fun k hk => Classical.byContradiction (fun hne => hh ⟨k, hk, hne⟩)
  have h0 : sm (fun k => vsm xs P (plm P.2) (k : Int)) 43 = 0 := sm_0 (fun k hk => by
    rw [← val_v hx hn h.rg hpl]
    exact hz k hk)
  unfold vsm at h0
  rw [sm_swap (fun g k => tmV xs P.2.length (npop (plm P.2)) (npop (g ^^^ plm P.2)) (rings P g) (k : Int))] at h0
  have h3 := sm_m3 (f := fun g => sm (fun k => tmV xs P.2.length (npop (plm P.2)) (npop (g ^^^ plm P.2)) (rings P g) (k : Int)) 43) (c := if P.2.length % 2 = 0 then 1 else 2) (n := 2 ^ P.2.length) (fun g hg => by
    have hx2 : g ^^^ plm P.2 < 2 ^ P.2.length := Nat.xor_lt_two_pow hg hpl
    have hpg := npop_len P.2.length (by omega) (g ^^^ plm P.2) (by omega) hx2
    rw [tmV_3 hx hn hpp hpg (rings_le h g)]
    split <;> rfl)
  rw [h0, pw3 P.2.length (by omega)] at h3
  omega
theorem hasM {xs : KS} (hx : XCh xs) : OwedM xs := fun _ hP => ⟨hP.w.lp, fun e _ => cof_v hx hP.w e, pv_n0 hx hP.w⟩
