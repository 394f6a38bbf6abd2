/-! FACES: both ways of counting them -/
/-- a picture well told, drawable or not -/
def PicW (P : Pic) : Prop := P.2.length ≤ 7 ∧ P.1.Nodup ∧ (∀ c b, (c, b) ∈ P.1 ↔ c < P.2.length) ∧ nubF [] (P.1.map Prod.fst) = List.range P.2.length
theorem PicOk.w {P : Pic} (h : PicOk P) : PicW P := ⟨h.1, h.2.1, h.2.2.1, h.2.2.2.1⟩
theorem PicW.len {P : Pic} (h : PicW P) : P.1.length = 2 * P.2.length := by
  rw [← allV_len]
  exact List.Perm.length_eq ((List.perm_ext_iff_of_nodup h.2.1 (allV_nd _)).mpr (fun ⟨c, b⟩ => by rw [h.2.2.1, allV_mem]))
theorem PicW.lt {P : Pic} (h : PicW P) {k : Nat} (hk : k < P.1.length) : pcx P k < P.2.length := (h.2.2.1 _ _).mp (pcx_mem hk)
theorem PicW.pwh {P : Pic} (h : PicW P) : pwh P := fun c hc b => pln_ex ((h.2.2.1 c b).mpr hc)
theorem mateW {P : Pic} (hok : PicW P) {k : Nat} (hk : k < P.1.length) : ∃ j, j < P.1.length ∧ j ≠ k ∧ pcx P j = pcx P k := by
  have hl := hok.lt hk
  obtain ⟨j, hj, e⟩ := List.mem_iff_getElem.mp ((hok.2.2.1 (pcx P k) (!(pov P k))).mpr hl)
  have e1 : pcx P j = pcx P k := by
    have : pcx P j = P.1[j].1 := by
      unfold pcx
      rw [List.getD_eq_getElem?_getD, List.getElem?_eq_getElem hj]; rfl
    rw [this, e]
  have e2 : pov P j = !(pov P k) := by
    have : pov P j = P.1[j].2 := by
      unfold pov
      rw [List.getD_eq_getElem?_getD, List.getElem?_eq_getElem hj]; rfl
    rw [this, e]
  refine ⟨j, hj, fun hh => ?_, e1⟩
  rw [hh] at e2
  cases h : pov P k <;> rw [h] at e2 <;> cases e2
theorem agn_all {P : Pic} (h : PicW P) {k : Nat} (hk : k < P.1.length) : agn P k < P.1.length ∧ agn P k ≠ k ∧ pcx P (agn P k) = pcx P k ∧ pov P (agn P k) = !(pov P k) ∧ agn P (agn P k) = k := by
  obtain ⟨j, hj, hjk, e⟩ := mateW h hk
  obtain ⟨a, b, c⟩ := agn_sp hj hjk e
  have ov : pov P (agn P k) = !(pov P k) := by
    have : pov P (agn P k) ≠ pov P k := fun hh => b (nd_at h.2.1 a hk c hh)
    cases h1 : pov P (agn P k) <;> cases h2 : pov P k <;> rw [h1, h2] at this <;> simp at this ⊢
  refine ⟨a, b, c, ov, ?_⟩
  obtain ⟨j2, hj2, hjk2, e2⟩ := mateW h a
  obtain ⟨a2, b2, c2⟩ := agn_sp hj2 hjk2 e2
  have ov2 : pov P (agn P (agn P k)) = !(pov P (agn P k)) := by
    have : pov P (agn P (agn P k)) ≠ pov P (agn P k) := fun hh => b2 (nd_at h.2.1 a2 a c2 hh)
    cases h1 : pov P (agn P (agn P k)) <;> cases h2 : pov P (agn P k) <;> rw [h1, h2] at this <;> simp at this ⊢
  exact nd_at h.2.1 a2 hk (c2.trans c) (by rw [ov2, ov]; cases pov P k <;> rfl)
theorem aft_bef {m k : Nat} (h : k < m) : aft m (bef m k) = k := by unfold aft bef; split <;> split <;> omega
theorem bef_aft {m k : Nat} (h : k < m) : bef m (aft m k) = k := by unfold aft bef; split <;> split <;> omega
/-- where a face's way comes to -/
def nfv (P : Pic) (w : Nat) : Nat := if w % 2 = 0 then aft P.1.length (w / 2) else w / 2
def nfe (P : Pic) (w : Nat) : Nat := ((if pov P (nfv P w) then 0 else 1) + (if w % 2 = 0 then 0 else 2) + (if psg P (pcx P (nfv P w)) then 1 else 3)) % 4
theorem nof_e (P : Pic) (w : Nat) : nof P w = if 2 ≤ nfe P w then 2 * agn P (nfv P w) else 2 * bef P.1.length (agn P (nfv P w)) + 1 := by
  unfold nof nfe nfv
  by_cases h : w % 2 = 0
  · simp only [h, decide_true, if_true]
  · simp only [h, decide_false, if_false, Bool.false_eq_true]
theorem nfv_e (P : Pic) (a : Nat) : nfv P (2 * a) = aft P.1.length a := by
  unfold nfv
  rw [if_pos (by omega)]
  congr 1; omega
theorem nfv_o (P : Pic) (a : Nat) : nfv P (2 * a + 1) = a := by
  unfold nfv
  rw [if_neg (by omega)]; omega
theorem nfv_lt {P : Pic} {w : Nat} (hw : w < 2 * P.1.length) : nfv P w < P.1.length := by
  unfold nfv
  split
  · exact aft_lt (by omega)
  · omega
theorem nof_inj {P : Pic} (h : PicW P) : Inj (nof P) (2 * P.1.length) := by
  refine ⟨fun w hw => nof_lt hw, fun x y hx hy e => ?_⟩
  rw [nof_e, nof_e] at e
  have vx := nfv_lt hx
  have vy := nfv_lt hy
  have ax := agn_all h vx
  have ay := agn_all h vy
  have hv : nfv P x = nfv P y ∧ (2 ≤ nfe P x ↔ 2 ≤ nfe P y) := by
    by_cases h1 : 2 ≤ nfe P x
    · by_cases h2 : 2 ≤ nfe P y
      · rw [if_pos h1, if_pos h2] at e
        have : agn P (nfv P x) = agn P (nfv P y) := by omega
        exact ⟨by rw [← ax.2.2.2.2, this, ay.2.2.2.2], ⟨fun _ => h2, fun _ => h1⟩⟩
      · rw [if_pos h1, if_neg h2] at e; omega
    · by_cases h2 : 2 ≤ nfe P y
      · rw [if_neg h1, if_pos h2] at e; omega
      · rw [if_neg h1, if_neg h2] at e
        have e1 : bef P.1.length (agn P (nfv P x)) = bef P.1.length (agn P (nfv P y)) := by omega
        have : agn P (nfv P x) = agn P (nfv P y) := by rw [← aft_bef ax.1, e1, aft_bef ay.1]
        exact ⟨by rw [← ax.2.2.2.2, this, ay.2.2.2.2], ⟨fun hh => absurd hh h1, fun hh => absurd hh h2⟩⟩
  obtain ⟨hv, hn⟩ := hv
  have hp : x % 2 = y % 2 := by
    unfold nfe at hn
    rw [hv] at hn
    have ha : (if pov P (nfv P y) = true then 0 else 1 : Nat) ≤ 1 := by split <;> omega
    have hb : (if psg P (pcx P (nfv P y)) = true then 1 else 3 : Nat) = 1 ∨ (if psg P (pcx P (nfv P y)) = true then 1 else 3 : Nat) = 3 := by split <;> simp
    generalize (if pov P (nfv P y) = true then 0 else 1 : Nat) = a at *
    generalize (if psg P (pcx P (nfv P y)) = true then 1 else 3 : Nat) = b at *
    rcases Nat.mod_two_eq_zero_or_one x with hx2 | hx2 <;> rcases Nat.mod_two_eq_zero_or_one y with hy2 | hy2 <;> rw [hx2, hy2] at hn ⊢ <;> exfalso
    · simp only [if_true, Nat.one_ne_zero, if_false] at hn; omega
    · simp only [if_true, Nat.one_ne_zero, if_false] at hn; omega
  unfold nfv at hv
  rw [hp] at hv
  split at hv
  · have : x / 2 = y / 2 := by rw [← bef_aft (show x / 2 < P.1.length by omega), hv, bef_aft (by omega)]
    omega
  · omega
theorem fcl_orm {P : Pic} {w : Nat} (h : PicW P) (hw : w < 2 * P.1.length) : ∀ (u i n : Nat), i + (u + 1) = per (nof P) (2 * P.1.length) w → u + 1 ≤ n → fcl P w n (itr (nof P) i w) (orm (nof P) 0 w i) = orm (nof P) 0 w (per (nof P) (2 * P.1.length) w)
  | u, i, 0, hi, hn => by omega
  | 0, i, n + 1, hi, hn => by
    have hp := per_ok (nof_inj h) hw
    unfold fcl
    have e : nof P (itr (nof P) i w) = itr (nof P) (i + 1) w := rfl
    have e1 : itr (nof P) (i + 1) w = w := by rw [show i + 1 = per (nof P) (2 * P.1.length) w by omega]; exact hp.2.2.1
    rw [if_pos (by rw [e, e1]), ← hi]
    rfl
  | u + 1, i, n + 1, hi, hn => by
    have hp := per_ok (nof_inj h) hw
    unfold fcl
    have e : nof P (itr (nof P) i w) = itr (nof P) (i + 1) w := rfl
    rw [if_neg (by rw [e]; exact hp.2.2.2 (i + 1) (by omega) (by omega))]
    exact fcl_orm h hw u (i + 1) n (by omega) (by omega)
theorem fcl_b {P : Pic} {w y : Nat} (h : PicW P) (hw : w < 2 * P.1.length) : (fcl P w (2 * P.1.length) w 0).testBit y = true ↔ orb (nof P) w y := by
  have hp := per_ok (nof_inj h) hw
  have := fcl_orm h hw (per (nof P) (2 * P.1.length) w - 1) 0 (2 * P.1.length) (by omega) (by omega)
  change fcl P w (2 * P.1.length) w 0 = _ at this
  rw [this, orm_p (nof_inj h) hw]
  simp
theorem fcs_cnt {P : Pic} (h : PicW P) : ∀ (n w g c : Nat), w + n = 2 * P.1.length → (∀ y, g.testBit y = true ↔ ∃ x, x < w ∧ orb (nof P) x y) → c = cnt (orb (nof P)) w → fcs P n w g c = cnt (orb (nof P)) (2 * P.1.length)
  | 0, w, g, c, hw, hg, hc => by
    unfold fcs
    rw [hc, show w = 2 * P.1.length by omega]
  | n + 1, w, g, c, hw, hg, hc => by
    have hw2 : w < 2 * P.1.length := by omega
    have he := orb_eqv (nof_inj h)
    unfold fcs
    split
    · rename_i hb
      obtain ⟨x, hx, ho⟩ := (hg w).mp hb
      refine fcs_cnt h n (w + 1) g c (by omega) (fun y => ?_) ?_
      · rw [hg y]
        constructor
        · rintro ⟨z, hz, hr⟩; exact ⟨z, by omega, hr⟩
        · rintro ⟨z, hz, hr⟩
          by_cases hzw : z = w
          · subst hzw
            obtain ⟨a, ea⟩ := ho
            obtain ⟨b, eb⟩ := hr
            exact ⟨x, hx, b + a, by rw [itr_add, ea, eb]⟩
          · exact ⟨z, by omega, hr⟩
      · rw [cnt_s, cdc_f.mpr (fun hm => hm x hx ho), hc]; rfl
    · rename_i hb
      refine fcs_cnt h n (w + 1) _ _ (by omega) (fun y => ?_) ?_
      · rw [Nat.testBit_or, Bool.or_eq_true, hg y, fcl_b h hw2]
        constructor
        · rintro (⟨z, hz, hr⟩ | hr)
          · exact ⟨z, by omega, hr⟩
          · exact ⟨w, by omega, hr⟩
        · rintro ⟨z, hz, hr⟩
          by_cases hzw : z = w
          · subst hzw; exact Or.inr hr
          · exact Or.inl ⟨z, by omega, hr⟩
      · have hm : mnl (orb (nof P)) w := fun x hx hr => hb ((hg w).mpr ⟨x, hx, hr⟩)
        rw [cnt_s, cdc_iff.mpr hm, hc]; rfl
theorem fcC_cnt {P : Pic} (h : PicW P) (h0 : P.1.length ≠ 0) : fcC P = cnt (orb (nof P)) (2 * P.1.length) := by
  unfold fcC
  rw [if_neg h0]
  exact fcs_cnt h _ 0 0 0 (by omega) (fun y => ⟨fun hh => by simp at hh, fun ⟨x, hx, _⟩ => absurd hx (Nat.not_lt_zero x)⟩) rfl
/-! THE MODEL: where one goes round a crossing -/
/-- ways by the model's numbers -/
def enc (m w : Nat) : Nat := if w % 2 = 0 then w / 2 else w / 2 + m
def dcd (m x : Nat) : Nat := if x < m then 2 * x else 2 * (x - m) + 1
theorem dcd_enc {m w : Nat} (h : w < 2 * m) : dcd m (enc m w) = w := by unfold dcd enc; split <;> split <;> omega
theorem enc_dcd {m x : Nat} (h : x < 2 * m) : enc m (dcd m x) = x := by unfold dcd enc; split <;> split <;> omega
theorem enc_lt {m w : Nat} (h : w < 2 * m) : enc m w < 2 * m := by unfold enc; split <;> omega
theorem dcd_lt {m x : Nat} (h : x < 2 * m) : dcd m x < 2 * m := by unfold dcd; split <;> omega
def gto (P : Pic) (x : Nat) : Nat := enc P.1.length (nof P (dcd P.1.length x))
/-- a crossing's ends: over in, under in, over out, under out -/
def eN (P : Pic) (c e : Nat) : Nat := let m := P.1.length; let o := pln P c true; let u := pln P c false; if e = 0 then bef m o else if e = 1 then bef m u else if e = 2 then o + m else u + m
def oN (P : Pic) (c e : Nat) : Nat := let m := P.1.length; let o := pln P c true; let u := pln P c false; if e = 0 then bef m o + m else if e = 1 then bef m u + m else if e = 2 then o else u
theorem pln_sp {P : Pic} (h : PicW P) {c : Nat} (hc : c < P.2.length) (b : Bool) : pln P c b < P.1.length ∧ pcx P (pln P c b) = c ∧ pov P (pln P c b) = b := by
  have h1 := h.pwh c hc b
  have h2 := fnd_spec (f := fun k => decide (pcx P k = c) && (pov P k == b)) h1
  rw [Bool.and_eq_true, decide_eq_true_eq, beq_iff_eq] at h2
  exact ⟨h1, h2.1, h2.2⟩
theorem pln_agn {P : Pic} (h : PicW P) {c : Nat} (hc : c < P.2.length) (b : Bool) : agn P (pln P c b) = pln P c (!b) := by
  obtain ⟨a1, a2, a3⟩ := pln_sp h hc b
  obtain ⟨b1, b2, b3⟩ := pln_sp h hc (!b)
  obtain ⟨c1, _, c3, c4, _⟩ := agn_all h a1
  exact nd_at h.2.1 c1 b1 (by rw [c3, a2, b2]) (by rw [c4, a3, b3])
theorem pln_at {P : Pic} (h : PicW P) {v : Nat} (hv : v < P.1.length) : v = pln P (pcx P v) (pov P v) := by
  obtain ⟨a1, a2, a3⟩ := pln_sp h (h.lt hv) (pov P v)
  exact nd_at h.2.1 hv a1 a2.symm a3.symm
def sgs (P : Pic) (c : Nat) : Nat := if psg P c then 1 else 3
theorem eN_lt {P : Pic} (h : PicW P) {c e : Nat} (hc : c < P.2.length) : eN P c e < 2 * P.1.length := by
  have ho := (pln_sp h hc true).1
  have hu := (pln_sp h hc false).1
  have bo := bef_lt ho
  have bu := bef_lt hu
  unfold eN
  simp only
  split
  · omega
  · split
    · omega
    · split <;> omega
theorem gto_eN {P : Pic} (h : PicW P) {c e : Nat} (hc : c < P.2.length) (he : e < 4) : gto P (eN P c e) = oN P c ((e + sgs P c) % 4) := by
  obtain ⟨o1, o2, o3⟩ := pln_sp h hc true
  obtain ⟨u1, u2, u3⟩ := pln_sp h hc false
  have ao := pln_agn h hc true
  have au := pln_agn h hc false
  simp only [Bool.not_true, Bool.not_false] at ao au
  unfold gto eN oN sgs
  simp only
  generalize pln P c true = o at *
  generalize pln P c false = u at *
  generalize hm : P.1.length = m at *
  have bo := bef_lt o1
  have bu := bef_lt u1
  have abo := aft_bef o1
  have abu := aft_bef u1
  -- the way by its visit and whether it goes on
  have key : ∀ (w v : Nat) (b : Bool), nfv P w = v → pov P v = b → pcx P v = c → ∀ t, (if w % 2 = 0 then 0 else 2) = t → enc m (nof P w) = (if 2 ≤ ((if b then 0 else 1) + t + (if psg P c then 1 else 3)) % 4 then agn P v else bef m (agn P v) + m) := by
    intro w v b hv hb hcv t ht
    rw [nof_e, hm, hv]
    have e : nfe P w = ((if b then 0 else 1) + t + (if psg P c then 1 else 3)) % 4 := by
      unfold nfe
      rw [hv, hb, hcv, ht]
    rw [e]
    generalize ((if b = true then 0 else 1) + t + (if psg P c = true then 1 else 3)) % 4 = nx
    split
    · unfold enc; rw [if_pos (by omega)]; omega
    · unfold enc; rw [if_neg (by omega)]; omega
  have d1 : ∀ x, x < m → nfv P (dcd m x) = aft m x ∧ (if dcd m x % 2 = 0 then 0 else 2) = (0 : Nat) := fun x hx => by
    have e : dcd m x = 2 * x := by unfold dcd; rw [if_pos hx]
    rw [e, nfv_e, hm, if_pos (by omega)]
    exact ⟨rfl, rfl⟩
  have d2 : ∀ x, x < m → nfv P (dcd m (x + m)) = x ∧ (if dcd m (x + m) % 2 = 0 then 0 else 2) = (2 : Nat) := fun x hx => by
    have e : dcd m (x + m) = 2 * x + 1 := by unfold dcd; rw [if_neg (by omega)]; omega
    rw [e, nfv_o, if_neg (by omega)]
    exact ⟨rfl, rfl⟩
  have q0 := key _ o true ((d1 _ bo).1.trans abo) o3 o2 _ (d1 _ bo).2
  have q1 := key _ u false ((d1 _ bu).1.trans abu) u3 u2 _ (d1 _ bu).2
  have q2 := key _ o true (d2 _ o1).1 o3 o2 _ (d2 _ o1).2
  have q3 := key _ u false (d2 _ u1).1 u3 u2 _ (d2 _ u1).2
  rw [ao] at q0 q2
  rw [au] at q1 q3
  rcases (by omega : e = 0 ∨ e = 1 ∨ e = 2 ∨ e = 3) with he | he | he | he <;> subst he
  · cases hs : psg P c <;> rw [hs] at q0 <;> simp at q0 ⊢ <;> exact q0
  · cases hs : psg P c <;> rw [hs] at q1 <;> simp at q1 ⊢ <;> exact q1
  · cases hs : psg P c <;> rw [hs] at q2 <;> simp at q2 ⊢ <;> exact q2
  · cases hs : psg P c <;> rw [hs] at q3 <;> simp at q3 ⊢ <;> exact q3
theorem eN_all {P : Pic} (h : PicW P) {x : Nat} (hx : x < 2 * P.1.length) : ∃ c e, c < P.2.length ∧ e < 4 ∧ eN P c e = x := by
  by_cases hl : x < P.1.length
  · have hv := aft_lt (m := P.1.length) (k := x) (by omega)
    have hp := pln_at h hv
    have hb := bef_aft hl
    generalize aft P.1.length x = v at *
    cases hov : pov P v with
    | true => exact ⟨pcx P v, 0, h.lt hv, by omega, by unfold eN; simp only; rw [hov] at hp; rw [← hp, if_pos trivial, hb]⟩
    | false => exact ⟨pcx P v, 1, h.lt hv, by omega, by unfold eN; simp only; rw [hov] at hp; rw [← hp, if_neg (by omega), if_pos trivial, hb]⟩
  · have hv : x - P.1.length < P.1.length := by omega
    have hp := pln_at h hv
    have hb : x - P.1.length + P.1.length = x := by omega
    generalize x - P.1.length = v at *
    cases hov : pov P v with
    | true => exact ⟨pcx P v, 2, h.lt hv, by omega, by unfold eN; simp only; rw [hov] at hp; rw [← hp, if_neg (by omega), if_neg (by omega), if_pos trivial, hb]⟩
    | false => exact ⟨pcx P v, 3, h.lt hv, by omega, by unfold eN; simp only; rw [hov] at hp; rw [← hp, if_neg (by omega), if_neg (by omega), if_neg (by omega), hb]⟩
theorem gto_inj {P : Pic} (h : PicW P) : Inj (gto P) (2 * P.1.length) := by
  have hi := nof_inj h
  refine ⟨fun x hx => enc_lt (hi.1 _ (dcd_lt hx)), fun x y hx hy e => ?_⟩
  unfold gto at e
  have e1 : nof P (dcd P.1.length x) = nof P (dcd P.1.length y) := by rw [← dcd_enc (hi.1 _ (dcd_lt hx)), e, dcd_enc (hi.1 _ (dcd_lt hy))]
  have e2 := hi.2 _ _ (dcd_lt hx) (dcd_lt hy) e1
  rw [← enc_dcd hx, e2, enc_dcd hy]
theorem gto_itr {P : Pic} (h : PicW P) {x : Nat} (hx : x < 2 * P.1.length) : ∀ k, itr (gto P) k (enc P.1.length x) = enc P.1.length (itr (nof P) k x)
  | 0 => rfl
  | k + 1 => by
    show gto P (itr (gto P) k _) = enc P.1.length (nof P (itr (nof P) k x))
    rw [gto_itr h hx k]
    unfold gto
    rw [dcd_enc (itr_lt (nof_inj h) hx k)]
theorem gto_cnt {P : Pic} (h : PicW P) : cnt (orb (gto P)) (2 * P.1.length) = cnt (orb (nof P)) (2 * P.1.length) := by
  have e1 := orb_eqv (nof_inj h)
  have e2 := orb_eqv (gto_inj h)
  refine Nat.le_antisymm (cnt_le (dcd P.1.length) e2 e1 (fun x hx => dcd_lt hx) (fun x y hx hy hr => ?_)) (cnt_le (enc P.1.length) e1 e2 (fun x hx => enc_lt hx) (fun x y hx hy hr => ?_))
  · obtain ⟨k, ek⟩ := hr
    refine ⟨k, ?_⟩
    have := gto_itr h (dcd_lt hx) k
    rw [enc_dcd hx, ek, enc_dcd hy] at this
    exact this
  · obtain ⟨k, ek⟩ := hr
    refine ⟨k, ?_⟩
    rw [gto_itr h hx] at ek
    rw [← dcd_enc (itr_lt (nof_inj h) hx k), ek, dcd_enc hy]
