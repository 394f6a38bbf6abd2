/-! RINGS by joining are rings by tracing -/
theorem jn_eq {r : Nat → Nat} {a b x y : Nat} (h : r x = r y) : jn r a b x = jn r a b y := by unfold jn; rw [h]
theorem jn_ab (r : Nat → Nat) (a b : Nat) : jn r a b a = jn r a b b := by
  unfold jn
  rw [if_pos rfl]
  split <;> rfl
/-- the arcs that are joined at a crossing have like labels -/
def jnd2 (P : Pic) (g : Nat) (r : Nat → Nat) (c : Nat) : Prop :=
  let m := P.1.length; let o := pln P c true; let u := pln P c false
  if g.testBit c then r (bef m o) = r u ∧ r (bef m u) = r o else r (bef m o) = r (bef m u) ∧ r o = r u
theorem jnd2_mono {P : Pic} {g : Nat} {r : Nat → Nat} {c a b : Nat} (h : jnd2 P g r c) : jnd2 P g (jn r a b) c := by
  unfold jnd2 at h ⊢
  simp only at h ⊢
  split
  · rename_i hb; rw [if_pos hb] at h; exact ⟨jn_eq h.1, jn_eq h.2⟩
  · rename_i hb; rw [if_neg hb] at h; exact ⟨jn_eq h.1, jn_eq h.2⟩
def gw (P : Pic) (g w : Nat) : Prop := ∀ c, c < P.2.length → g.testBit c = (w.testBit c != psg P c)
theorem gw_on {P : Pic} {g w c : Nat} (h : gw P g w) (hc : c < P.2.length) : ((w.testBit c == false) = psg P c) ↔ g.testBit c = true := by
  rw [h c hc]
  cases w.testBit c <;> cases psg P c <;> simp
theorem lpR_jn {P : Pic} {g w : Nat} (h : gw P g w) : ∀ n, n ≤ P.2.length → ∀ c, c < n → jnd2 P g (lpR P w n) c
  | 0, _, c, hc => absurd hc (Nat.not_lt_zero c)
  | n + 1, hn, c, hc => by
    have hg := gw_on h (show n < P.2.length by omega)
    have ih := lpR_jn h n (by omega)
    unfold lpR
    simp only
    by_cases hcn : c = n
    · subst hcn
      unfold jnd2
      simp only
      split
      · rename_i hb
        rw [if_pos (hg.mpr hb)]
        exact ⟨jn_eq (jn_ab _ _ _), jn_ab _ _ _⟩
      · rename_i hb
        rw [if_neg (fun hh => hb (hg.mp hh))]
        exact ⟨jn_eq (jn_ab _ _ _), jn_ab _ _ _⟩
    · have := ih c (by omega)
      split
      · exact jnd2_mono (jnd2_mono this)
      · exact jnd2_mono (jnd2_mono this)
/-- joined arcs are on one ring -/
theorem crg_jn {P : Pic} (h : PicW P) (g : Nat) {c : Nat} (hc : c < P.2.length) : if g.testBit c then crg P g (bef P.1.length (pln P c true)) (pln P c false) ∧ crg P g (bef P.1.length (pln P c false)) (pln P c true) else crg P g (bef P.1.length (pln P c true)) (bef P.1.length (pln P c false)) ∧ crg P g (pln P c true) (pln P c false) := by
  obtain ⟨o1, o2, o3⟩ := pln_sp h hc true
  obtain ⟨u1, u2, u3⟩ := pln_sp h hc false
  have ao := pln_agn h hc true
  have au := pln_agn h hc false
  simp only [Bool.not_true, Bool.not_false] at ao au
  generalize pln P c true = o at *
  generalize pln P c false = u at *
  have bo := bef_lt o1
  have bu := bef_lt u1
  have st : ∀ w, w < 2 * P.1.length → crg P g (w / 2) (rgf P g w / 2) := fun w hw => crg_of h g hw ((rgf_inj h g).1 w hw) ⟨1, rfl⟩
  have ev : ∀ v a, v < P.1.length → agn P v = a → pcx P v = c → (g.testBit c = true → crg P g (bef P.1.length v) a) ∧ (g.testBit c = false → crg P g (bef P.1.length v) (bef P.1.length a)) ∧ (g.testBit c = false → crg P g v a) := by
    intro v a hv ha hcv
    have hb := bef_lt hv
    have ab := aft_bef hv
    have s1 := st (2 * bef P.1.length v) (by omega)
    have s2 := st (2 * v + 1) (by omega)
    rw [show 2 * bef P.1.length v / 2 = bef P.1.length v by omega] at s1
    rw [show (2 * v + 1) / 2 = v by omega] at s2
    unfold rgf ro at s1 s2
    rw [nfv_e, ab, hcv, ha] at s1
    rw [nfv_o, hcv, ha] at s2
    rw [decide_eq_true (show 2 * bef P.1.length v % 2 = 0 by omega)] at s1
    rw [decide_eq_false (show ¬ (2 * v + 1) % 2 = 0 by omega)] at s2
    refine ⟨fun hg => ?_, fun hg => ?_, fun hg => ?_⟩
    · rw [hg] at s1
      simp only [if_true] at s1
      rw [show 2 * a / 2 = a by omega] at s1; exact s1
    · rw [hg] at s1
      simp only [Bool.false_eq_true, if_false, Bool.not_true] at s1
      rw [show (2 * bef P.1.length a + 1) / 2 = bef P.1.length a by omega] at s1; exact s1
    · rw [hg] at s2
      simp only [Bool.false_eq_true, if_false, Bool.not_false, if_true] at s2
      rw [show 2 * a / 2 = a by omega] at s2; exact s2
  have eo := ev o u o1 ao o2
  have eu := ev u o u1 au u2
  cases hg : g.testBit c with
  | true => rw [if_pos rfl]; exact ⟨eo.1 hg, eu.1 hg⟩
  | false => rw [if_neg (by simp)]; exact ⟨eo.2.1 hg, eo.2.2 hg⟩
theorem crg_jn1 {P : Pic} (h : PicW P) {g : Nat} {r : Nat → Nat} {a b : Nat} (ha : a < P.1.length) (hb : b < P.1.length) (hr : ∀ x, x < P.1.length → r x < P.1.length ∧ crg P g x (r x)) (hab : crg P g a b) : ∀ x, x < P.1.length → jn r a b x < P.1.length ∧ crg P g x (jn r a b x) := fun x hx => by
  have he := crg_eqv h g
  unfold jn
  split
  · rename_i e
    have h1 := hr x hx
    have h2 := hr a ha
    have h3 := hr b hb
    rw [e] at h1
    refine ⟨h3.1, ?_⟩
    have h4 := he.2.2 _ _ _ hx h2.1 ha h1.2 (he.2.1 _ _ ha h2.1 h2.2)
    exact he.2.2 _ _ _ hx hb h3.1 (he.2.2 _ _ _ hx ha hb h4 hab) h3.2
  · exact hr x hx
theorem lpR_crg {P : Pic} {g w : Nat} (h : PicW P) (hgw : gw P g w) : ∀ n, n ≤ P.2.length → ∀ x, x < P.1.length → lpR P w n x < P.1.length ∧ crg P g x (lpR P w n x)
  | 0, _, x, hx => ⟨hx, (crg_eqv h g).1 x hx⟩
  | n + 1, hn, x, hx => by
    have hn1 : n < P.2.length := by omega
    have hg := gw_on hgw hn1
    have ih := lpR_crg h hgw n (by omega)
    have hj := crg_jn h g hn1
    have o1 := (pln_sp h hn1 true).1
    have u1 := (pln_sp h hn1 false).1
    unfold lpR
    simp only
    split
    · rename_i hb
      rw [if_pos (hg.mp hb)] at hj
      exact crg_jn1 h (bef_lt u1) o1 (crg_jn1 h (bef_lt o1) u1 ih hj.1) hj.2 x hx
    · rename_i hb
      rw [if_neg (fun hh => hb (hg.mpr hh))] at hj
      exact crg_jn1 h o1 u1 (crg_jn1 h (bef_lt o1) (bef_lt u1) ih hj.1) hj.2 x hx
/-- a step keeps the label -/
theorem jnd2_step {P : Pic} (h : PicW P) {g : Nat} {r : Nat → Nat} (hr : ∀ c, c < P.2.length → jnd2 P g r c) {w : Nat} (hw : w < 2 * P.1.length) : r (w / 2) = r (rgf P g w / 2) := by
  have hv := nfv_lt hw
  have hc := h.lt hv
  have hj := hr _ hc
  have hp := pln_at h hv
  have ha : agn P (nfv P w) = pln P (pcx P (nfv P w)) (!(pov P (nfv P w))) := by
    conv => lhs; rw [hp]
    exact pln_agn h hc _
  have hb : w % 2 = 0 → w / 2 = bef P.1.length (nfv P w) := fun e => by
    unfold nfv
    rw [if_pos e, bef_aft (by omega)]
  have hd : w % 2 = 1 → w / 2 = nfv P w := fun e => by unfold nfv; rw [if_neg (by omega)]
  unfold rgf ro
  unfold jnd2 at hj
  simp only at hj
  generalize pcx P (nfv P w) = c at *
  rw [ha]
  generalize nfv P w = v at *
  have e1 : ∀ a, 2 * a / 2 = a := fun a => by omega
  have e2 : ∀ a, (2 * a + 1) / 2 = a := fun a => by omega
  rcases Nat.mod_two_eq_zero_or_one w with q | q
  · rw [hb q, decide_eq_true q]
    cases hg : g.testBit c with
    | true =>
      rw [hg, if_pos rfl] at hj
      rw [if_pos rfl, if_pos rfl, e1]
      cases ho : pov P v <;> rw [ho] at hp <;> rw [hp]
      · exact hj.2
      · exact hj.1
    | false =>
      rw [hg, if_neg (by simp)] at hj
      simp only [Bool.false_eq_true, if_false, Bool.not_true]
      rw [e2]
      cases ho : pov P v <;> rw [ho] at hp <;> rw [hp]
      · exact hj.1.symm
      · exact hj.1
  · rw [hd q, decide_eq_false (by omega)]
    cases hg : g.testBit c with
    | true =>
      rw [hg, if_pos rfl] at hj
      rw [if_pos rfl, if_neg (by simp), e2]
      cases ho : pov P v <;> rw [ho] at hp <;> rw [hp]
      · exact hj.1.symm
      · exact hj.2.symm
    | false =>
      rw [hg, if_neg (by simp)] at hj
      simp only [Bool.false_eq_true, if_false, Bool.not_false, if_true]
      rw [e1]
      cases ho : pov P v <;> rw [ho] at hp <;> rw [hp]
      · exact hj.2.symm
      · exact hj.2
theorem lab_crg {P : Pic} (h : PicW P) {g : Nat} {r : Nat → Nat} (hr : ∀ c, c < P.2.length → jnd2 P g r c) {x y : Nat} (hx : x < P.1.length) (hxy : crg P g x y) : r x = r y := by
  have key : ∀ k, r x = r (itr (rgf P g) k (2 * x) / 2) := by
    intro k
    induction k with
    | zero => show r x = r (2 * x / 2); rw [show 2 * x / 2 = x by omega]
    | succ k ih => rw [ih]; exact jnd2_step h hr (itr_lt (rgf_inj h g) (by omega) k)
  rcases hxy with ⟨k, e⟩ | ⟨k, e⟩
  · rw [key k, e, show 2 * y / 2 = y by omega]
  · rw [key k, e, show (2 * y + 1) / 2 = y by omega]
/-- labels tell rings -/
theorem lab_iff {P : Pic} {g w : Nat} (h : PicW P) (hgw : gw P g w) {x y : Nat} (hx : x < P.1.length) (hy : y < P.1.length) : lpR P w P.2.length x = lpR P w P.2.length y ↔ crg P g x y := by
  have he := crg_eqv h g
  constructor
  · intro e
    have h1 := lpR_crg h hgw _ (Nat.le_refl _) x hx
    have h2 := lpR_crg h hgw _ (Nat.le_refl _) y hy
    rw [← e] at h2
    exact he.2.2 _ _ _ hx h1.1 hy h1.2 (he.2.1 _ _ hy h1.1 h2.2)
  · intro e
    exact lab_crg h (lpR_jn hgw _ (Nat.le_refl _)) hx e
/-- like labels -/
def lab (r : Nat → Nat) (x y : Nat) : Prop := r x = r y
theorem lab_eqv (r : Nat → Nat) (N : Nat) : Eqv (lab r) N := ⟨fun _ _ => rfl, fun _ _ _ _ e => e.symm, fun _ _ _ _ _ _ e g => e.trans g⟩
theorem lpS_b (P : Pic) (w y : Nat) : ∀ k, (lpS P w k).testBit y = true ↔ ∃ i, i < k ∧ lpR P w P.2.length i = y
  | 0 => ⟨fun h => by unfold lpS at h; simp at h, fun ⟨i, hi, _⟩ => absurd hi (Nat.not_lt_zero i)⟩
  | k + 1 => by
    show (lpS P w k ||| 2 ^ (lpR P w P.2.length k)).testBit y = true ↔ _
    rw [bit_or, lpS_b P w y k]
    constructor
    · rintro (⟨i, hi, e⟩ | e)
      · exact ⟨i, by omega, e⟩
      · exact ⟨k, by omega, e⟩
    · rintro ⟨i, hi, e⟩
      by_cases hik : i = k
      · subst hik; exact Or.inr e
      · exact Or.inl ⟨i, by omega, e⟩
theorem pc_cnt {P : Pic} {g w : Nat} (h : PicW P) (hgw : gw P g w) : pc14 (lpS P w P.1.length) = cnt (lab (lpR P w P.2.length)) P.1.length := by
  have hl := h.len
  have h7 := h.1
  generalize hr : lpR P w P.2.length = r
  have hlt : ∀ x, x < P.1.length → r x < P.1.length := fun x hx => by rw [← hr]; exact (lpR_crg h hgw _ (Nat.le_refl _) x hx).1
  have hb : ∀ y, (lpS P w P.1.length).testBit y = true ↔ ∃ i, i < P.1.length ∧ r i = y := fun y => by rw [lpS_b, hr]
  have he := lab_eqv r P.1.length
  unfold pc14 cnt
  rw [List.countP_eq_length_filter, List.countP_eq_length_filter]
  refine Nat.le_antisymm ?_ ?_
  · refine len_inj _ _ (fun y => fnd (fun i => decide (r i = y)) P.1.length) (nd_filter List.nodup_range) (fun y hy => ?_) (fun a ha b hb2 e => ?_)
    · obtain ⟨i, hi, e⟩ := (hb y).mp (List.mem_filter.mp hy).2
      have h1 := fnd_lt (f := fun i => decide (r i = y)) hi (decide_eq_true e)
      have h2 := of_decide_eq_true (fnd_spec h1)
      refine mem_reps.mpr ⟨h1, fun z hz hh => ?_⟩
      have h3 := fnd_min (f := fun i => decide (r i = y)) hz
      exact of_decide_eq_false h3 (hh.trans h2)
    · obtain ⟨i, hi, e1⟩ := (hb a).mp (List.mem_filter.mp ha).2
      obtain ⟨j, hj, e2⟩ := (hb b).mp (List.mem_filter.mp hb2).2
      have h2 := of_decide_eq_true (fnd_spec (fnd_lt (f := fun i => decide (r i = a)) hi (decide_eq_true e1)))
      have h3 := of_decide_eq_true (fnd_spec (fnd_lt (f := fun i => decide (r i = b)) hj (decide_eq_true e2)))
      rw [← h2, ← h3, e]
  · refine len_inj _ _ r (nd_filter List.nodup_range) (fun x hx => ?_) (fun a ha b hb2 e => ?_)
    · have hx := mem_reps.mp hx
      have := hlt x hx.1
      exact List.mem_filter.mpr ⟨List.mem_range.mpr (by omega), (hb _).mpr ⟨x, hx.1, rfl⟩⟩
    · have ha := mem_reps.mp ha
      have hb2 := mem_reps.mp hb2
      exact mnl_eq he ha.1 hb2.1 ha.2 hb2.2 e
theorem lps_rings {P : Pic} {g w : Nat} (h : PicW P) (hgw : gw P g w) : lps P w = rings P g := by
  have hl := h.len
  by_cases h0 : P.1.length = 0
  · unfold lps rings
    rw [if_pos h0, if_pos (by omega)]
  · rw [rings_cnt h g h0]
    unfold lps
    rw [if_neg (by omega), pc_cnt h hgw]
    exact cnt_cg (fun x y hx hy => lab_iff h hgw hx hy)
/-! HOW MANY rings there may be -/
theorem jn_cnt (r : Nat → Nat) (a b m : Nat) : cnt (lab r) m ≤ cnt (lab (jn r a b)) m + 1 := by
  have he := lab_eqv r m
  have he2 := lab_eqv (jn r a b) m
  have h1 : cnt (lab r) m = ((List.range m).filter (fun x => cdc (mnl (lab r) x))).length := by unfold cnt; rw [List.countP_eq_length_filter]
  generalize hA : (List.range m).filter (fun x => cdc (mnl (lab r) x)) = A at h1
  have hAm : ∀ x, x ∈ A ↔ x < m ∧ mnl (lab r) x := fun x => by rw [← hA]; exact mem_reps
  have hAn : A.Nodup := by rw [← hA]; exact nd_filter List.nodup_range
  have h2 : A.length = (A.filter (fun x => decide (r x = r a))).length + (A.filter (fun x => !(decide (r x = r a)))).length := by
    rw [← List.countP_eq_length_filter, ← List.countP_eq_length_filter]
    rw [List.length_eq_countP_add_countP (fun x => decide (r x = r a)) (l := A)]
    congr 1
    refine List.countP_congr (fun x _ => ?_)
    by_cases hx : r x = r a <;> simp [hx]
  have h3 : (A.filter (fun x => decide (r x = r a))).length ≤ [0].length := by
    refine len_inj _ [0] (fun _ => 0) (nd_filter hAn) (fun _ _ => List.mem_singleton.mpr rfl) (fun x hx y hy _ => ?_)
    have hx := List.mem_filter.mp hx
    have hy := List.mem_filter.mp hy
    have x1 := (hAm x).mp hx.1
    have y1 := (hAm y).mp hy.1
    exact mnl_eq he x1.1 y1.1 x1.2 y1.2 ((of_decide_eq_true hx.2).trans (of_decide_eq_true hy.2).symm)
  have h4 : (A.filter (fun x => !(decide (r x = r a)))).length ≤ cnt (lab (jn r a b)) m := by
    unfold cnt
    rw [List.countP_eq_length_filter]
    refine len_inj _ _ (fun x => lst (lab (jn r a b)) m x) (nd_filter hAn) (fun x hx => ?_) (fun x hx y hy e => ?_)
    · have hx := List.mem_filter.mp hx
      have x1 := (hAm x).mp hx.1
      have := lst_ok he2 x1.1
      exact mem_reps.mpr ⟨this.1, this.2.2⟩
    · have hx := List.mem_filter.mp hx
      have hy := List.mem_filter.mp hy
      have x1 := (hAm x).mp hx.1
      have y1 := (hAm y).mp hy.1
      have xa : ¬ r x = r a := by have := hx.2; rw [Bool.not_eq_true'] at this; exact of_decide_eq_false this
      have ya : ¬ r y = r a := by have := hy.2; rw [Bool.not_eq_true'] at this; exact of_decide_eq_false this
      have g1 := (lst_ok he2 x1.1).2.1
      have g2 := (lst_ok he2 y1.1).2.1
      rw [← e] at g2
      have g3 : jn r a b x = jn r a b y := g1.symm.trans g2
      unfold jn at g3
      rw [if_neg xa, if_neg ya] at g3
      exact mnl_eq he x1.1 y1.1 x1.2 y1.2 g3
  simp at h3
  omega
def rX (P : Pic) (r : Nat → Nat) : Nat → Nat → Nat
  | 0 => r
  | c + 1 => jn (rX P r c) (bef P.1.length (pln P c true)) (pln P c true)
theorem rX_cnt (P : Pic) (r : Nat → Nat) : ∀ c, cnt (lab r) P.1.length ≤ cnt (lab (rX P r c)) P.1.length + c
  | 0 => Nat.le_refl _
  | c + 1 => by
    have h1 := rX_cnt P r c
    have h2 := jn_cnt (rX P r c) (bef P.1.length (pln P c true)) (pln P c true) P.1.length
    show _ ≤ cnt (lab (jn (rX P r c) (bef P.1.length (pln P c true)) (pln P c true))) P.1.length + (c + 1)
    omega
theorem rX_j2 {P : Pic} {g : Nat} {r : Nat → Nat} {e : Nat} (h : jnd2 P g r e) : ∀ c, jnd2 P g (rX P r c) e
  | 0 => h
  | c + 1 => jnd2_mono (rX_j2 h c)
theorem rX_o (P : Pic) (r : Nat → Nat) : ∀ c e, e < c → rX P r c (bef P.1.length (pln P e true)) = rX P r c (pln P e true)
  | 0, e, h => absurd h (Nat.not_lt_zero e)
  | c + 1, e, h => by
    by_cases hec : e = c
    · subst hec; exact jn_ab _ _ _
    · exact jn_eq (rX_o P r c e (by omega))
theorem cnt_all {r : Nat → Nat} {m : Nat} (h : ∀ x, x < m → r x = r 0) : cnt (lab r) m ≤ 1 := by
  have h1 : cnt (lab r) m ≤ cnt (fun _ _ => True) 1 := cnt_le (fun _ => 0) (lab_eqv r m) ⟨fun _ _ => trivial, fun _ _ _ _ _ => trivial, fun _ _ _ _ _ _ _ _ => trivial⟩ (fun _ _ => by omega) (fun x y hx hy _ => (h x hx).trans (h y hy).symm)
  have h2 : cnt (fun _ _ => True) 1 ≤ 1 := List.countP_le_length
  omega
theorem cnt_pos {R : Nat → Nat → Prop} {m : Nat} (h : 0 < m) : 1 ≤ cnt R m := by
  unfold cnt
  exact List.countP_pos_iff.mpr ⟨0, List.mem_range.mpr h, cdc_iff.mpr (fun y hy => absurd hy (Nat.not_lt_zero y))⟩
theorem rings_le {P : Pic} (h : PicW P) (g : Nat) : 1 ≤ rings P g ∧ rings P g ≤ P.2.length + 1 := by
  have hl := h.len
  by_cases h0 : P.1.length = 0
  · unfold rings; rw [if_pos h0]; omega
  · have hgw : gw P g (g ^^^ plm P.2) := fun c hc => by
      rw [Nat.testBit_xor, plm_bit]
      show _ = ((g.testBit c ^^ psg P c) != psg P c)
      cases g.testBit c <;> cases psg P c <;> rfl
    refine ⟨by rw [rings_cnt h g h0]; exact cnt_pos (by omega), ?_⟩
    rw [← lps_rings h hgw]
    unfold lps
    rw [if_neg (by omega), pc_cnt h hgw]
    generalize hr : lpR P (g ^^^ plm P.2) P.2.length = r
    have hj : ∀ c, c < P.2.length → jnd2 P g r c := fun c hc => by rw [← hr]; exact lpR_jn hgw _ (Nat.le_refl _) c hc
    have h1 := rX_cnt P r P.2.length
    have hstep : ∀ v, v < P.1.length → rX P r P.2.length (bef P.1.length v) = rX P r P.2.length v := fun v hv => by
      have hc := h.lt hv
      have h2 := rX_j2 (hj _ hc) P.2.length
      have h3 := rX_o P r P.2.length _ hc
      have hp := pln_at h hv
      unfold jnd2 at h2
      simp only at h2
      generalize pcx P v = c at *
      cases hov : pov P v with
      | true => rw [hov] at hp; rw [hp]; exact h3
      | false =>
        rw [hov] at hp
        rw [hp]
        split at h2
        · rw [h2.2, ← h3, h2.1]
        · rw [← h2.1, h3, h2.2]
    have hall : ∀ x, x < P.1.length → rX P r P.2.length x = rX P r P.2.length 0 := by
      intro x
      induction x with
      | zero => intro _; rfl
      | succ x ih =>
        intro hx
        have := hstep (x + 1) hx
        rw [← this, show bef P.1.length (x + 1) = x by unfold bef; rw [if_pos (by omega)]; omega]
        exact ih (by omega)
    have := cnt_all hall
    omega
theorem PicW.rg {P : Pic} (h : PicW P) : RgOk P := fun g _ => by
  have := rings_le h g
  have := h.1
  omega
theorem PicW.lp {P : Pic} (h : PicW P) : LpOk P := fun w _ => by
  have hgw : gw P (w ^^^ plm P.2) w := fun c hc => by
    rw [Nat.testBit_xor, plm_bit]
    show (w.testBit c ^^ psg P c) = _
    cases w.testBit c <;> cases psg P c <;> rfl
  rw [lps_rings h hgw]
  have := rings_le h (w ^^^ plm P.2)
  have := h.1
  omega
