/-! all ways on from a state are the ways of the picture -/
def arE (m e : Nat) : Nat := if e % 2 = 0 then bef m (e / 2) else e / 2
def FE (P : Pic) (c e : Nat) : Prop := e < 2 * P.1.length ∧ c ≤ pcx P (e / 2)
theorem MRel.cg {F F' : Nat → Prop} {key : Nat} {r r' : Nat → Nat} (h : MRel F key r) (hF : ∀ z, F' z ↔ F z) (hr : ∀ z, r' z = r z) : MRel F' key r' := fun e he => by
  obtain ⟨a1, a2, a3, a4, a5⟩ := h e ((hF e).mp he)
  exact ⟨a1, (hF _).mpr a2, a3, a4, fun d hd => by rw [hr, hr]; exact a5 d ((hF d).mp hd)⟩
theorem kyI_ok : ∀ n, n < 8 → ∀ e, e < 4 * n → e < 32 ∧ mte (kyI (2 * n) (2 * n)) e < 4 * n ∧ mte (kyI (2 * n) (2 * n)) e ≠ e ∧ mte (kyI (2 * n) (2 * n)) (mte (kyI (2 * n) (2 * n)) e) = e ∧ ∀ d, d < 4 * n → (arE (2 * n) e = arE (2 * n) d ↔ d = e ∨ d = mte (kyI (2 * n) (2 * n)) e) := by decide +kernel
theorem MRel.init {P : Pic} (h : PicW P) : MRel (FE P 0) (kyI P.1.length P.1.length) (arE P.1.length) := fun e he => by
  have hl := h.len
  rw [hl]
  obtain ⟨a1, a2, a3, a4, a5⟩ := kyI_ok P.2.length (by have := h.1; omega) e (by have := he.1; omega)
  exact ⟨a1, ⟨by omega, Nat.zero_le _⟩, a3, a4, fun d hd => a5 d (by have := hd.1; omega)⟩
theorem lpR_bits {P : Pic} {g g' : Nat} : ∀ c, (∀ i, i < c → g.testBit i = g'.testBit i) → lpR P g c = lpR P g' c
  | 0, _ => rfl
  | c + 1, h => by
    unfold lpR
    simp only
    rw [lpR_bits c (fun i hi => h i (by omega)), h c (by omega)]
def jf (r : Nat → Nat) (a b : Nat) : Int := if r a = r b then kK else kB
/-- the weight of a way, by crossings -/
def wgt (P : Pic) (s g : Nat) : Nat → Int
  | 0 => 1
  | c + 1 =>
    let r := lpR P g c; let m := P.1.length; let o := pln P c true; let u := pln P c false
    wgt P s g c * (if g.testBit c = true then jf r (bef m o) u * jf (jn r (bef m o) u) (bef m u) o * bw (s.testBit c) else jf r (bef m o) (bef m u) * jf (jn r (bef m o) (bef m u)) o u * bw (!s.testBit c))
theorem wgt_bits {P : Pic} {s g g' : Nat} : ∀ c, (∀ i, i < c → g.testBit i = g'.testBit i) → wgt P s g c = wgt P s g' c
  | 0, _ => rfl
  | c + 1, h => by
    unfold wgt
    simp only
    rw [wgt_bits c (fun i hi => h i (by omega)), lpR_bits c (fun i hi => h i (by omega)), h c (by omega)]
theorem sm_2 (f : Nat → Int) : ∀ N, sm f (2 * N) = sm (fun h => f (2 * h) + f (2 * h + 1)) N
  | 0 => rfl
  | N + 1 => by
    rw [show 2 * (N + 1) = (2 * N + 1) + 1 by omega]
    show sm f (2 * N) + f (2 * N) + f (2 * N + 1) = sm _ N + (f (2 * N) + f (2 * N + 1))
    rw [sm_2 f N]
    omega
/-- two joins of four ends -/
theorem MRel.two {F : Nat → Prop} {key : Nat} {r : Nat → Nat} {m : Nat} {e f e' f' : Nat} (h : MRel F key (fun z => r (arE m z))) (he : F e) (hf : F f) (he' : F e') (hf' : F f') (hd : e ≠ f ∧ e ≠ e' ∧ e ≠ f' ∧ f ≠ e' ∧ f ≠ f' ∧ e' ≠ f') :
    MRel (fun z => (F z ∧ z ≠ e ∧ z ≠ f) ∧ z ≠ e' ∧ z ≠ f') (kq key e f e' f') (fun z => jn (jn r (arE m e) (arE m f)) (arE m e') (arE m f') (arE m z)) ∧ wq key e f e' f' = jf r (arE m e) (arE m f) * jf (jn r (arE m e) (arE m f)) (arE m e') (arE m f') := by
  have h1 := h.jo he hf hd.1
  have h1' : MRel (fun z => F z ∧ z ≠ e ∧ z ≠ f) (jk key e f) (fun z => jn r (arE m e) (arE m f) (arE m z)) := h1
  have g1 : F e' ∧ e' ≠ e ∧ e' ≠ f := ⟨he', fun hh => hd.2.1 hh.symm, fun hh => hd.2.2.2.1 hh.symm⟩
  have g2 : F f' ∧ f' ≠ e ∧ f' ≠ f := ⟨hf', fun hh => hd.2.2.1 hh.symm, fun hh => hd.2.2.2.2.1 hh.symm⟩
  have h2 := h1'.jo g1 g2 hd.2.2.2.2.2
  refine ⟨h2, ?_⟩
  have w1 : jw key e f = jf r (arE m e) (arE m f) := by
    unfold jw jf
    have := h.eq he hf hd.1
    cases hb : Nat.beq (mte key e) f with
    | true => rw [if_pos (this.mp hb)]; rfl
    | false => rw [if_neg (fun hh => by rw [this.mpr hh] at hb; cases hb)]; rfl
  have w2 : jw (jk key e f) e' f' = jf (jn r (arE m e) (arE m f)) (arE m e') (arE m f') := by
    unfold jw jf
    have := h1'.eq g1 g2 hd.2.2.2.2.2
    cases hb : Nat.beq (mte (jk key e f) e') f' with
    | true => rw [if_pos (this.mp hb)]; rfl
    | false => rw [if_neg (fun hh => by rw [this.mpr hh] at hb; cases hb)]; rfl
  unfold wq
  rw [w1, w2]
  rfl
theorem arE_0 (m v : Nat) : arE m (2 * v) = bef m v := by unfold arE; rw [if_pos (by omega), show 2 * v / 2 = v by omega]
theorem arE_1 (m v : Nat) : arE m (2 * v + 1) = v := by unfold arE; rw [if_neg (by omega), show (2 * v + 1) / 2 = v by omega]
theorem bit_up {g c i : Nat} (hg : g < 2 ^ c) (hi : i < c) : (g + 2 ^ c).testBit i = g.testBit i := by
  rw [Nat.add_comm, Nat.testBit_two_pow_add_gt hi]
theorem bit_at {g c : Nat} (hg : g < 2 ^ c) : (g + 2 ^ c).testBit c = true := by
  rw [Nat.add_comm, Nat.testBit_two_pow_add_eq, Nat.testBit_lt_two_pow hg]; rfl
theorem ref_s {P : Pic} (h : PicW P) (hs : ∀ c, c < P.2.length → psg P c = false) (w : List Nat) (hw : ∀ c, c < P.2.length → ix2 c w 0 = (pln P c true, pln P c false)) (s : Nat) : ∀ (f c g key : Nat), c + f = P.2.length → g < 2 ^ c → MRel (FE P c) key (fun z => lpR P g c (arE P.1.length z)) → ref (crL w s f c) key * wgt P s g c = sm (fun x => wgt P s (g + 2 ^ c * x) P.2.length) (2 ^ f)
  | 0, c, g, key, hc, hg, hM => by
    obtain rfl : c = P.2.length := by omega
    show 1 * wgt P s g P.2.length = 0 + wgt P s (g + 2 ^ P.2.length * 0) P.2.length
    rw [Nat.mul_zero, Nat.add_zero]
    omega
  | f + 1, c, g, key, hc, hg, hM => by
    have hcn : c < P.2.length := by omega
    obtain ⟨o1, o2, o3⟩ := pln_sp h hcn true
    obtain ⟨u1, u2, u3⟩ := pln_sp h hcn false
    have hou : pln P c true ≠ pln P c false := fun hh => by rw [hh, u3] at o3; cases o3
    have hat : ∀ v, v < P.1.length → pcx P v = c → v = pln P c true ∨ v = pln P c false := fun v hv e => by
      have := pln_at h hv
      rw [e] at this
      cases hb : pov P v with
      | true => rw [hb] at this; exact Or.inl this
      | false => rw [hb] at this; exact Or.inr this
    have eR : crL w s (f + 1) c = (s.testBit c, pln P c true, pln P c false) :: crL w s f (c + 1) := by
      show (s.testBit c, ix2 c w 0) :: _ = _
      rw [hw c hcn]
    rw [eR]
    have hst : ∀ g', (∀ i, i < c → g'.testBit i = g.testBit i) → lpR P g' (c + 1) = if g'.testBit c = true then jn (jn (lpR P g c) (bef P.1.length (pln P c true)) (pln P c false)) (bef P.1.length (pln P c false)) (pln P c true) else jn (jn (lpR P g c) (bef P.1.length (pln P c true)) (bef P.1.length (pln P c false))) (pln P c true) (pln P c false) := fun g' hg' => by
      have e1 : lpR P g' c = lpR P g c := lpR_bits c hg'
      show (if (g'.testBit c == false) = psg P c then _ else _) = _
      rw [e1, hs c hcn]
      cases g'.testBit c <;> rfl
    have hwt : ∀ g', (∀ i, i < c → g'.testBit i = g.testBit i) → wgt P s g' (c + 1) = wgt P s g c * (if g'.testBit c = true then jf (lpR P g c) (bef P.1.length (pln P c true)) (pln P c false) * jf (jn (lpR P g c) (bef P.1.length (pln P c true)) (pln P c false)) (bef P.1.length (pln P c false)) (pln P c true) * bw (s.testBit c) else jf (lpR P g c) (bef P.1.length (pln P c true)) (bef P.1.length (pln P c false)) * jf (jn (lpR P g c) (bef P.1.length (pln P c true)) (bef P.1.length (pln P c false))) (pln P c true) (pln P c false) * bw (!s.testBit c)) := fun g' hg' => by
      show wgt P s g' c * _ = _
      rw [wgt_bits c hg', lpR_bits c hg']
    generalize pln P c true = o at *
    generalize pln P c false = u at *
    have F0 : ∀ v, v < P.1.length → pcx P v = c → ∀ b : Nat, b < 2 → FE P c (2 * v + b) := fun v hv e b hb => ⟨by omega, by rw [show (2 * v + b) / 2 = v by omega, e]; exact Nat.le_refl _⟩
    have f1 := F0 o o1 o2 0 (by omega)
    have f2 := F0 o o1 o2 1 (by omega)
    have f3 := F0 u u1 u2 0 (by omega)
    have f4 := F0 u u1 u2 1 (by omega)
    have hF : ∀ z, FE P (c + 1) z ↔ FE P c z ∧ z ≠ 2 * o ∧ z ≠ 2 * o + 1 ∧ z ≠ 2 * u ∧ z ≠ 2 * u + 1 := fun z => by
      constructor
      · rintro ⟨z1, z2⟩
        refine ⟨⟨z1, by omega⟩, ?_, ?_, ?_, ?_⟩ <;> intro e <;> subst e
        · rw [show 2 * o / 2 = o by omega] at z2; omega
        · rw [show (2 * o + 1) / 2 = o by omega] at z2; omega
        · rw [show 2 * u / 2 = u by omega] at z2; omega
        · rw [show (2 * u + 1) / 2 = u by omega] at z2; omega
      · rintro ⟨⟨z1, z2⟩, z3, z4, z5, z6⟩
        refine ⟨z1, ?_⟩
        by_cases he : pcx P (z / 2) = c
        · have := hat (z / 2) (by omega) he
          omega
        · omega
    obtain ⟨a1, a2⟩ := hM.two (m := P.1.length) f1 f4 f3 f2 ⟨by omega, by omega, by omega, by omega, by omega, by omega⟩
    obtain ⟨b1, b2⟩ := hM.two (m := P.1.length) f1 f3 f2 f4 ⟨by omega, by omega, by omega, by omega, by omega, by omega⟩
    simp only [Nat.add_zero, arE_0, arE_1] at a1 a2 b1 b2
    have hb1 : ∀ i, i < c → (g + 2 ^ c).testBit i = g.testBit i := fun i hi => bit_up hg hi
    have l1 := hst (g + 2 ^ c) hb1
    have l0 := hst g (fun _ _ => rfl)
    have w1 := hwt (g + 2 ^ c) hb1
    have w0 := hwt g (fun _ _ => rfl)
    rw [bit_at hg, if_pos rfl] at l1 w1
    rw [Nat.testBit_lt_two_pow hg, if_neg (by decide)] at l0 w0
    have hp : 2 ^ (c + 1) = 2 * 2 ^ c := by rw [Nat.pow_succ]; omega
    have i1 := ref_s h hs w hw s f (c + 1) (g + 2 ^ c) (kq key (2 * o) (2 * u + 1) (2 * u) (2 * o + 1)) (by omega) (by omega) (a1.cg (fun z => (hF z).trans ⟨fun ⟨h1, x1, x2, x3, x4⟩ => ⟨⟨h1, x1, x4⟩, x3, x2⟩, fun ⟨⟨h1, x1, x4⟩, x3, x2⟩ => ⟨h1, x1, x2, x3, x4⟩⟩) (fun z => by rw [l1]))
    have i0 := ref_s h hs w hw s f (c + 1) g (kq key (2 * o) (2 * u) (2 * o + 1) (2 * u + 1)) (by omega) (by omega) (b1.cg (fun z => (hF z).trans ⟨fun ⟨h1, x1, x2, x3, x4⟩ => ⟨⟨h1, x1, x3⟩, x2, x4⟩, fun ⟨⟨h1, x1, x3⟩, x2, x4⟩ => ⟨h1, x1, x2, x3, x4⟩⟩) (fun z => by rw [l0]))
    rw [w1] at i1
    rw [w0] at i0
    rw [show 2 ^ (f + 1) = 2 * 2 ^ f by rw [Nat.pow_succ]; omega, sm_2, sm_add]
    have c0 : sm (fun x => wgt P s (g + 2 ^ c * (2 * x)) P.2.length) (2 ^ f) = sm (fun x => wgt P s (g + 2 ^ (c + 1) * x) P.2.length) (2 ^ f) := sm_cg (fun x _ => by rw [hp, Nat.mul_comm 2 (2 ^ c), Nat.mul_assoc])
    have c1 : sm (fun x => wgt P s (g + 2 ^ c * (2 * x + 1)) P.2.length) (2 ^ f) = sm (fun x => wgt P s (g + 2 ^ c + 2 ^ (c + 1) * x) P.2.length) (2 ^ f) := sm_cg (fun x _ => by rw [hp, Nat.mul_comm 2 (2 ^ c), Nat.mul_assoc, Nat.mul_add, Nat.mul_one]; congr 1; omega)
    rw [c0, c1, ← i0, ← i1]
    show (wq key (2 * o) (2 * u + 1) (2 * u) (2 * o + 1) * bw (s.testBit c) * ref (crL w s f (c + 1)) (kq key (2 * o) (2 * u + 1) (2 * u) (2 * o + 1)) + wq key (2 * o) (2 * u) (2 * o + 1) (2 * u + 1) * bw (!s.testBit c) * ref (crL w s f (c + 1)) (kq key (2 * o) (2 * u) (2 * o + 1) (2 * u + 1))) * wgt P s g c = _
    rw [a2, b2]
    generalize ref (crL w s f (c + 1)) _ = R1
    generalize ref (crL w s f (c + 1)) _ = R0
    generalize wgt P s g c = W
    generalize jf _ _ _ * jf _ _ _ * bw (s.testBit c) = A1
    generalize jf _ _ _ * jf _ _ _ * bw (!s.testBit c) = A0
    rw [Int.add_mul, Int.add_comm, Int.mul_comm A0 R0, Int.mul_assoc R0, Int.mul_comm A0 W, Int.mul_comm A1 R1, Int.mul_assoc R1, Int.mul_comm A1 W]
