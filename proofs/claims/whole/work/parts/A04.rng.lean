/-! RINGS by tracing and by joining -/
def rvs (w : Nat) : Nat := if w % 2 = 0 then w + 1 else w - 1
theorem rvs_rvs (w : Nat) : rvs (rvs w) = w := by unfold rvs; split <;> split <;> omega
theorem rvs_ne (w : Nat) : rvs w ≠ w := by unfold rvs; split <;> omega
theorem rvs_lt {m w : Nat} (h : w < 2 * m) : rvs w < 2 * m := by unfold rvs; split <;> omega
theorem rvs_h (w : Nat) : rvs w / 2 = w / 2 := by unfold rvs; split <;> omega
theorem half_eq {x y : Nat} (h : x / 2 = y / 2) : x = y ∨ y = rvs x := by unfold rvs; split <;> omega
def ro (P : Pic) (g w : Nat) : Bool := if g.testBit (pcx P (nfv P w)) then decide (w % 2 = 0) else !(decide (w % 2 = 0))
def rgf (P : Pic) (g w : Nat) : Nat := if ro P g w = true then 2 * agn P (nfv P w) else 2 * bef P.1.length (agn P (nfv P w)) + 1
def sec (S : Nat × Bool) : Nat := 2 * S.1 + (if S.2 then 0 else 1)
theorem sec_rgs (P : Pic) (g : Nat) (S : Nat × Bool) : sec (rgs P g S) = rgf P g (sec S) := by
  obtain ⟨a, b⟩ := S
  have hv : rgv P.1.length (a, b) = nfv P (sec (a, b)) := by
    unfold rgv nfv sec aft
    cases b
    · simp; omega
    · simp
  have hr : (rgs P g (a, b)).2 = ro P g (sec (a, b)) := by
    unfold rgs ro
    simp only
    rw [hv]
    cases b <;> unfold sec <;> simp
  have hr1 : (rgs P g (a, b)).1 = if (rgs P g (a, b)).2 = true then agn P (nfv P (sec (a, b))) else bef P.1.length (agn P (nfv P (sec (a, b)))) := by
    rw [← hv]; rfl
  unfold rgf
  rw [← hr]
  show 2 * (rgs P g (a, b)).1 + _ = _
  rw [hr1]
  cases (rgs P g (a, b)).2 <;> simp
theorem sec_rgw (P : Pic) (g a : Nat) : ∀ k, sec (rgw P g a k) = itr (rgf P g) k (2 * a)
  | 0 => by show 2 * a + 0 = 2 * a; omega
  | k + 1 => by
    show sec (rgs P g (rgw P g a k)) = rgf P g (itr (rgf P g) k (2 * a))
    rw [sec_rgs, sec_rgw P g a k]
theorem rgw_h (P : Pic) (g a k : Nat) : (rgw P g a k).1 = itr (rgf P g) k (2 * a) / 2 := by
  rw [← sec_rgw]
  unfold sec
  split <;> omega
theorem rgf_inj {P : Pic} (h : PicW P) (g : Nat) : Inj (rgf P g) (2 * P.1.length) := by
  refine ⟨fun w hw => ?_, fun x y hx hy e => ?_⟩
  · have a := (agn_all h (nfv_lt hw)).1
    have b := bef_lt a
    unfold rgf
    split <;> omega
  · have vx := nfv_lt hx
    have vy := nfv_lt hy
    have ax := agn_all h vx
    have ay := agn_all h vy
    unfold rgf at e
    have hv : nfv P x = nfv P y ∧ ro P g x = ro P g y := by
      cases h1 : ro P g x <;> cases h2 : ro P g y <;> rw [h1, h2] at e <;> simp at e
      · have e1 : agn P (nfv P x) = agn P (nfv P y) := by rw [← aft_bef ax.1, show bef P.1.length (agn P (nfv P x)) = bef P.1.length (agn P (nfv P y)) by omega, aft_bef ay.1]
        exact ⟨by rw [← ax.2.2.2.2, e1, ay.2.2.2.2], rfl⟩
      · omega
      · omega
      · exact ⟨by rw [← ax.2.2.2.2, show agn P (nfv P x) = agn P (nfv P y) by omega, ay.2.2.2.2], rfl⟩
    obtain ⟨hv, hr⟩ := hv
    have hp : x % 2 = y % 2 := by
      unfold ro at hr
      rw [hv] at hr
      rcases Nat.mod_two_eq_zero_or_one x with hx2 | hx2 <;> rcases Nat.mod_two_eq_zero_or_one y with hy2 | hy2 <;> rw [hx2, hy2] at hr ⊢ <;> cases g.testBit (pcx P (nfv P y)) <;> simp at hr
    unfold nfv at hv
    rw [hp] at hv
    split at hv
    · have : x / 2 = y / 2 := by rw [← bef_aft (show x / 2 < P.1.length by omega), hv, bef_aft (by omega)]
      omega
    · omega
theorem rgf_rv {P : Pic} (h : PicW P) (g : Nat) {w : Nat} (hw : w < 2 * P.1.length) : rgf P g (rvs (rgf P g w)) = rvs w := by
  have hv := nfv_lt hw
  obtain ⟨a1, a2, a3, a4, a5⟩ := agn_all h hv
  have ab := aft_bef a1
  have hb : w % 2 = 0 → bef P.1.length (nfv P w) = w / 2 := fun e => by
    unfold nfv
    rw [if_pos e, bef_aft (by omega)]
  have hd : w % 2 = 1 → nfv P w = w / 2 := fun e => by unfold nfv; rw [if_neg (by omega)]
  have e1 : rgf P g w = if ro P g w = true then 2 * agn P (nfv P w) else 2 * bef P.1.length (agn P (nfv P w)) + 1 := rfl
  cases hr : ro P g w with
  | true =>
    rw [e1, hr, if_pos rfl]
    have e2 : rvs (2 * agn P (nfv P w)) = 2 * agn P (nfv P w) + 1 := by unfold rvs; rw [if_pos (by omega)]
    rw [e2]
    unfold ro at hr
    unfold rgf ro
    rw [nfv_o, a3, a5]
    cases hg : g.testBit (pcx P (nfv P w)) with
    | true =>
      rw [hg, if_pos rfl] at hr
      have hr := of_decide_eq_true hr
      rw [if_pos rfl, decide_eq_false (by omega), if_neg (by simp), hb hr]
      unfold rvs; rw [if_pos hr]; omega
    | false =>
      rw [hg, if_neg (by simp)] at hr
      have hr : w % 2 = 1 := by
        rcases Nat.mod_two_eq_zero_or_one w with e | e
        · rw [e] at hr; simp at hr
        · exact e
      rw [decide_eq_false (show ¬ (2 * agn P (nfv P w) + 1) % 2 = 0 by omega)]
      simp only [Bool.false_eq_true, if_false, Bool.not_false, if_true]
      rw [hd hr]
      unfold rvs; rw [if_neg (by omega)]; omega
  | false =>
    rw [e1, hr, if_neg (by simp)]
    have e2 : rvs (2 * bef P.1.length (agn P (nfv P w)) + 1) = 2 * bef P.1.length (agn P (nfv P w)) := by unfold rvs; rw [if_neg (by omega)]; omega
    rw [e2]
    unfold ro at hr
    unfold rgf ro
    rw [nfv_e, ab, a3, a5]
    cases hg : g.testBit (pcx P (nfv P w)) with
    | true =>
      rw [hg, if_pos rfl] at hr
      have hr : w % 2 = 1 := by
        have := of_decide_eq_false hr
        omega
      rw [if_pos rfl, decide_eq_true (by omega), if_pos rfl, hd hr]
      unfold rvs; rw [if_neg (by omega)]; omega
    | false =>
      rw [hg, if_neg (by simp)] at hr
      have hr : w % 2 = 0 := by
        rcases Nat.mod_two_eq_zero_or_one w with e | e
        · exact e
        · rw [e] at hr; simp at hr
      rw [decide_eq_true (show 2 * bef P.1.length (agn P (nfv P w)) % 2 = 0 by omega)]
      simp only [Bool.false_eq_true, if_false, Bool.not_true]
      rw [hb hr]
      unfold rvs; rw [if_pos hr]; omega
theorem rgf_ne {P : Pic} (h : PicW P) (g : Nat) {w : Nat} (hw : w < 2 * P.1.length) : rgf P g w ≠ rvs w := fun e => by
  have hv := nfv_lt hw
  obtain ⟨a1, a2, _, _, _⟩ := agn_all h hv
  have ab := aft_bef a1
  unfold rgf rvs at e
  by_cases hp : w % 2 = 0
  · rw [if_pos hp] at e
    split at e
    · omega
    · have : bef P.1.length (agn P (nfv P w)) = w / 2 := by omega
      rw [this] at ab
      apply a2
      rw [← ab]
      unfold nfv
      rw [if_pos hp]
  · rw [if_neg hp] at e
    split at e
    · apply a2
      unfold nfv at e ⊢
      rw [if_neg hp] at e ⊢
      omega
    · omega
theorem orb_rv {P : Pic} (h : PicW P) (g : Nat) {x : Nat} (hx : x < 2 * P.1.length) : ∀ k, orb (rgf P g) (rvs (itr (rgf P g) k x)) (rvs x)
  | 0 => ⟨0, rfl⟩
  | k + 1 => by
    obtain ⟨j, e⟩ := orb_rv h g hx k
    refine ⟨j + 1, ?_⟩
    rw [itr_add]
    show itr (rgf P g) j (rgf P g (rvs (rgf P g (itr (rgf P g) k x)))) = _
    rw [rgf_rv h g (itr_lt (rgf_inj h g) hx k)]
    exact e
/-- a ring never comes back the other way -/
theorem orb_nr {P : Pic} (h : PicW P) (g : Nat) {x : Nat} (hx : x < 2 * P.1.length) : ¬ orb (rgf P g) x (rvs x) := fun ⟨k, e⟩ => by
  have hi := rgf_inj h g
  have key : ∀ i, i ≤ k → itr (rgf P g) (k - i) x = rvs (itr (rgf P g) i x) := by
    intro i
    induction i with
    | zero => intro _; exact e
    | succ i ih =>
      intro hik
      have h1 := ih (by omega)
      rw [show k - i = (k - (i + 1)) + 1 by omega] at h1
      change rgf P g (itr (rgf P g) (k - (i + 1)) x) = _ at h1
      have h2 := rgf_rv h g (itr_lt hi hx (k - (i + 1)))
      rw [h1, rvs_rvs] at h2
      change itr (rgf P g) (i + 1) x = _ at h2
      rw [h2, rvs_rvs]
  rcases Nat.mod_two_eq_zero_or_one k with hk | hk
  · have := key (k / 2) (by omega)
    rw [show k - k / 2 = k / 2 by omega] at this
    exact rvs_ne _ this.symm
  · have := key (k / 2) (by omega)
    rw [show k - k / 2 = k / 2 + 1 by omega] at this
    exact rgf_ne h g (itr_lt hi hx (k / 2)) this
/-- arcs on one ring -/
def crg (P : Pic) (g a b : Nat) : Prop := orb (rgf P g) (2 * a) (2 * b) ∨ orb (rgf P g) (2 * a) (2 * b + 1)
theorem crg_of {P : Pic} (h : PicW P) (g : Nat) {x y : Nat} (hx : x < 2 * P.1.length) (hy : y < 2 * P.1.length) (ho : orb (rgf P g) x y) : crg P g (x / 2) (y / 2) := by
  have he := orb_eqv (rgf_inj h g)
  have ev : ∀ x y, x < 2 * P.1.length → orb (rgf P g) x y → x % 2 = 0 → crg P g (x / 2) (y / 2) := fun x y hx ho e => by
    rw [show x = 2 * (x / 2) by omega] at ho
    rcases Nat.mod_two_eq_zero_or_one y with e2 | e2
    · left; rw [show 2 * (y / 2) = y by omega]; exact ho
    · right; rw [show 2 * (y / 2) + 1 = y by omega]; exact ho
  rcases Nat.mod_two_eq_zero_or_one x with e | e
  · exact ev x y hx ho e
  · obtain ⟨k, ek⟩ := ho
    have h1 := orb_rv h g hx k
    rw [ek] at h1
    have h2 := he.2.1 _ _ (rvs_lt hy) (rvs_lt hx) h1
    have := ev _ _ (rvs_lt hx) h2 (by unfold rvs; rw [if_neg (by omega)]; omega)
    rw [rvs_h, rvs_h] at this
    exact this
theorem crg_orb {P : Pic} {g a b : Nat} (h : crg P g a b) (hb : b < P.1.length) : ∃ y, y < 2 * P.1.length ∧ y / 2 = b ∧ orb (rgf P g) (2 * a) y := by
  rcases h with h | h
  · exact ⟨2 * b, by omega, by omega, h⟩
  · exact ⟨2 * b + 1, by omega, by omega, h⟩
theorem crg_eqv {P : Pic} (h : PicW P) (g : Nat) : Eqv (crg P g) P.1.length := by
  have he := orb_eqv (rgf_inj h g)
  refine ⟨fun x hx => Or.inl ⟨0, rfl⟩, fun x y hx hy hr => ?_, fun x y z hx hy hz hr hs => ?_⟩
  · obtain ⟨w, hw, e, ho⟩ := crg_orb hr hy
    have := crg_of h g hw (show 2 * x < 2 * P.1.length by omega) (he.2.1 _ _ (by omega) hw ho)
    rw [e, show 2 * x / 2 = x by omega] at this
    exact this
  · obtain ⟨w, hw, e, ho⟩ := crg_orb hr hy
    obtain ⟨t, ht, e2, ho2⟩ := crg_orb hs hz
    have fin : ∀ t', t' < 2 * P.1.length → t' / 2 = z → orb (rgf P g) w t' → crg P g x z := fun t' h1 h2 h3 => by
      have := crg_of h g (show 2 * x < 2 * P.1.length by omega) h1 (he.2.2 _ _ _ (by omega) hw h1 ho h3)
      rw [h2, show 2 * x / 2 = x by omega] at this
      exact this
    rcases half_eq (show w / 2 = 2 * y / 2 by omega) with g1 | g1
    · exact fin t ht e2 (by rw [g1]; exact ho2)
    · refine fin (rvs t) (rvs_lt ht) (by rw [rvs_h]; exact e2) ?_
      have : w = rvs (2 * y) := by rw [g1, rvs_rvs]
      rw [this]
      obtain ⟨k, ek⟩ := ho2
      have h1 := orb_rv h g (show 2 * y < 2 * P.1.length by omega) k
      rw [ek] at h1
      exact he.2.1 _ _ (rvs_lt ht) (rvs_lt (by omega)) h1
theorem rgm_b (P : Pic) (g a y : Nat) : ∀ k, (rgm P g a k).testBit y = true ↔ ∃ i, i < k ∧ (rgw P g a i).1 = y
  | 0 => ⟨fun h => by unfold rgm at h; simp at h, fun ⟨i, hi, _⟩ => absurd hi (Nat.not_lt_zero i)⟩
  | k + 1 => by
    show (rgm P g a k ||| 2 ^ (rgw P g a k).1).testBit y = true ↔ _
    rw [bit_or, rgm_b P g a y k]
    constructor
    · rintro (⟨i, hi, e⟩ | e)
      · exact ⟨i, by omega, e⟩
      · exact ⟨k, by omega, e⟩
    · rintro ⟨i, hi, e⟩
      by_cases hik : i = k
      · subst hik; exact Or.inr e
      · exact Or.inl ⟨i, by omega, e⟩
theorem rgn_per {P : Pic} (h : PicW P) (g : Nat) {a : Nat} (ha : a < P.1.length) : rgn P g a = per (rgf P g) (2 * P.1.length) (2 * a) := by
  have hi := rgf_inj h g
  have hx : 2 * a < 2 * P.1.length := by omega
  obtain ⟨p0, p1, p2, p3⟩ := per_ok hi hx
  have hpm : per (rgf P g) (2 * P.1.length) (2 * a) ≤ P.1.length := by
    have hnd : ((List.range (per (rgf P g) (2 * P.1.length) (2 * a))).map (fun k => itr (rgf P g) k (2 * a) / 2)).Nodup := by
      refine nodup_map List.nodup_range (fun i hi1 j hj1 e => ?_)
      have hi1 := List.mem_range.mp hi1
      have hj1 := List.mem_range.mp hj1
      have key : ∀ i j, i < j → j < per (rgf P g) (2 * P.1.length) (2 * a) → itr (rgf P g) i (2 * a) / 2 ≠ itr (rgf P g) j (2 * a) / 2 := fun i j hij hj e => by
        rcases half_eq e with e | e
        · exact per_nd hi hx hij hj e
        · refine orb_nr h g (itr_lt hi hx i) ⟨j - i, ?_⟩
          rw [← itr_add, show j - i + i = j by omega]
          exact e
      rcases Nat.lt_trichotomy i j with q | q | q
      · exact absurd e (key i j q hj1)
      · exact q
      · exact absurd e.symm (key j i q hi1)
    have := nd_le P.1.length _ hnd (fun y hy => by
      obtain ⟨k, _, rfl⟩ := List.mem_map.mp hy
      have := itr_lt hi hx k
      omega)
    simp at this
    omega
  have hf : fnd (fun k => decide ((rgw P g a (k + 1)).1 = a)) P.1.length = per (rgf P g) (2 * P.1.length) (2 * a) - 1 := by
    refine fnd_eq (by omega) (decide_eq_true ?_) (fun j hj => decide_eq_false ?_)
    · rw [rgw_h, show per (rgf P g) (2 * P.1.length) (2 * a) - 1 + 1 = per (rgf P g) (2 * P.1.length) (2 * a) by omega, p2]; omega
    · rw [rgw_h]
      intro e
      rcases half_eq (show 2 * a / 2 = itr (rgf P g) (j + 1) (2 * a) / 2 by omega) with q | q
      · exact p3 (j + 1) (by omega) (by omega) q.symm
      · exact orb_nr h g hx ⟨j + 1, q⟩
  unfold rgn
  rw [hf]
  omega
theorem rgg_b {P : Pic} (h : PicW P) (g : Nat) {a y : Nat} (ha : a < P.1.length) : (rgg P g a).testBit y = true ↔ crg P g a y := by
  have hi := rgf_inj h g
  have hx : 2 * a < 2 * P.1.length := by omega
  unfold rgg
  rw [rgm_b, rgn_per h g ha]
  unfold crg
  rw [orb_p hi hx, orb_p hi hx]
  constructor
  · rintro ⟨i, hip, e⟩
    rw [rgw_h] at e
    rcases Nat.mod_two_eq_zero_or_one (itr (rgf P g) i (2 * a)) with q | q
    · exact Or.inl ⟨i, hip, by omega⟩
    · exact Or.inr ⟨i, hip, by omega⟩
  · rintro (⟨i, hip, e⟩ | ⟨i, hip, e⟩)
    · exact ⟨i, hip, by rw [rgw_h]; omega⟩
    · exact ⟨i, hip, by rw [rgw_h]; omega⟩
theorem rgc_cnt {P : Pic} (h : PicW P) (g : Nat) : ∀ j, j ≤ P.1.length → (∀ y, y < P.1.length → ((rgc P g j).1.testBit y = true ↔ ∃ x, x < j ∧ crg P g x y)) ∧ (rgc P g j).2 = cnt (crg P g) j
  | 0, _ => ⟨fun y _ => ⟨fun hh => by unfold rgc at hh; simp at hh, fun ⟨x, hx, _⟩ => absurd hx (Nat.not_lt_zero x)⟩, rfl⟩
  | j + 1, hj => by
    obtain ⟨h1, h2⟩ := rgc_cnt h g j (by omega)
    have he := crg_eqv h g
    have e : rgc P g (j + 1) = if (rgc P g j).1.testBit j then rgc P g j else ((rgc P g j).1 ||| rgg P g j, (rgc P g j).2 + 1) := rfl
    rw [e]
    cases hb : (rgc P g j).1.testBit j with
    | true =>
      obtain ⟨x, hx, ho⟩ := (h1 j (by omega)).mp hb
      rw [if_pos rfl]
      refine ⟨fun y hy => ?_, ?_⟩
      · rw [h1 y hy]
        constructor
        · rintro ⟨z, hz, hr⟩; exact ⟨z, by omega, hr⟩
        · rintro ⟨z, hz, hr⟩
          by_cases hzw : z = j
          · subst hzw
            exact ⟨x, hx, he.2.2 _ _ _ (by omega) (by omega) hy ho hr⟩
          · exact ⟨z, by omega, hr⟩
      · rw [cnt_s, cdc_f.mpr (fun hm => hm x hx ho), h2]; rfl
    | false =>
      rw [if_neg (by simp)]
      refine ⟨fun y hy => ?_, ?_⟩
      · show ((rgc P g j).1 ||| rgg P g j).testBit y = true ↔ _
        rw [Nat.testBit_or, Bool.or_eq_true, h1 y hy, rgg_b h g (by omega)]
        constructor
        · rintro (⟨z, hz, hr⟩ | hr)
          · exact ⟨z, by omega, hr⟩
          · exact ⟨j, by omega, hr⟩
        · rintro ⟨z, hz, hr⟩
          by_cases hzw : z = j
          · subst hzw; exact Or.inr hr
          · exact Or.inl ⟨z, by omega, hr⟩
      · have hm : mnl (crg P g) j := fun x hx hr => by
          rw [(h1 j (by omega)).mpr ⟨x, hx, hr⟩] at hb; cases hb
        show (rgc P g j).2 + 1 = _
        rw [cnt_s, cdc_iff.mpr hm, h2]; rfl
theorem rings_cnt {P : Pic} (h : PicW P) (g : Nat) (h0 : P.1.length ≠ 0) : rings P g = cnt (crg P g) P.1.length := by
  unfold rings
  rw [if_neg h0]
  exact (rgc_cnt h g _ (Nat.le_refl _)).2
