/-! DRAWABLE pictures: crossings at places odd and even -/
theorem inj_onto {p : Nat → Nat} {N : Nat} (hp : ∀ x, x < N → p x < N) (hi : ∀ x y, x < N → y < N → p x = p y → x = y) {y : Nat} (hy : y < N) : ∃ x, x < N ∧ p x = y := by
  refine Classical.byContradiction (fun hn => ?_)
  have hnd : ((List.range N).map p).Nodup := nodup_map List.nodup_range (fun a ha b hb e => hi a b (List.mem_range.mp ha) (List.mem_range.mp hb) e)
  have h1 : (y :: (List.range N).map p).Nodup := List.nodup_cons.mpr ⟨fun hm => by
    obtain ⟨z, hz, e⟩ := List.mem_map.mp hm
    exact hn ⟨z, List.mem_range.mp hz, e⟩, hnd⟩
  have := nd_le N _ h1 (fun x hx => by
    rcases List.mem_cons.mp hx with e | hx
    · rw [e]; exact hy
    · obtain ⟨z, hz, rfl⟩ := List.mem_map.mp hx
      exact hp z (List.mem_range.mp hz))
  simp at this
  omega
/-- colours of faces, by ways -/
def Fc (P : Pic) (f : Nat → Bool) : Prop := ∀ w, w < 2 * P.1.length → f (nof P w) = f w
def dA (f : Nat → Bool) (a : Nat) : Bool := f (2 * a) != f (2 * a + 1)
def tC (P : Pic) (f : Nat → Bool) (c : Nat) : Bool := (f (2 * bef P.1.length (pln P c true)) != f (2 * bef P.1.length (pln P c false))) != (f (2 * pln P c true + 1) != f (2 * pln P c false + 1))
def wA (P : Pic) (c e : Nat) : Nat := let m := P.1.length; let o := pln P c true; let u := pln P c false; if e = 0 then 2 * bef m o else if e = 1 then 2 * bef m u else if e = 2 then 2 * o + 1 else 2 * u + 1
def wL (P : Pic) (c e : Nat) : Nat := let m := P.1.length; let o := pln P c true; let u := pln P c false; if e = 0 then 2 * bef m o + 1 else if e = 1 then 2 * bef m u + 1 else if e = 2 then 2 * o else 2 * u
theorem wA_lt {P : Pic} (h : PicW P) {c e : Nat} (hc : c < P.2.length) : wA P c e < 2 * P.1.length := by
  have ho := (pln_sp h hc true).1
  have hu := (pln_sp h hc false).1
  have bo := bef_lt ho
  have bu := bef_lt hu
  unfold wA
  simp only
  split
  · omega
  · split
    · omega
    · split <;> omega
theorem enc_2 (m a : Nat) : enc m (2 * a) = a ∧ enc m (2 * a + 1) = a + m := by
  unfold enc
  rw [if_pos (by omega), if_neg (by omega)]
  omega
theorem nof_wA {P : Pic} (h : PicW P) {c e : Nat} (hc : c < P.2.length) (he : e < 4) : nof P (wA P c e) = wL P c ((e + sgs P c) % 4) := by
  have h1 := gto_eN h hc he
  have e1 : ∀ e, enc P.1.length (wA P c e) = eN P c e := fun e => by
    unfold wA eN
    simp only
    split
    · exact (enc_2 _ _).1
    · split
      · exact (enc_2 _ _).1
      · split
        · exact (enc_2 _ _).2
        · exact (enc_2 _ _).2
  have e2 : ∀ e, enc P.1.length (wL P c e) = oN P c e := fun e => by
    unfold wL oN
    simp only
    split
    · exact (enc_2 _ _).2
    · split
      · exact (enc_2 _ _).2
      · split
        · exact (enc_2 _ _).1
        · exact (enc_2 _ _).1
  have hA := wA_lt h (e := e) hc
  unfold gto at h1
  rw [← e1, dcd_enc hA, ← e2] at h1
  have hL : wL P c ((e + sgs P c) % 4) < 2 * P.1.length := by
    have ho := (pln_sp h hc true).1
    have hu := (pln_sp h hc false).1
    have bo := bef_lt ho
    have bu := bef_lt hu
    unfold wL
    simp only
    split
    · omega
    · split
      · omega
      · split <;> omega
  rw [← dcd_enc (nof_lt hA), h1, dcd_enc hL]
/-- what colours say at a crossing -/
def CrQ (P : Pic) (f : Nat → Bool) (c : Nat) : Prop :=
  let m := P.1.length; let o := pln P c true; let u := pln P c false
  if psg P c then f (2 * bef m u + 1) = f (2 * bef m o) ∧ f (2 * o) = f (2 * bef m u) ∧ f (2 * u) = f (2 * o + 1) ∧ f (2 * bef m o + 1) = f (2 * u + 1)
  else f (2 * u) = f (2 * bef m o) ∧ f (2 * bef m o + 1) = f (2 * bef m u) ∧ f (2 * bef m u + 1) = f (2 * o + 1) ∧ f (2 * o) = f (2 * u + 1)
theorem fc_q {P : Pic} (h : PicW P) {f : Nat → Bool} (hf : Fc P f) {c : Nat} (hc : c < P.2.length) : CrQ P f c := by
  have q : ∀ e, e < 4 → f (wL P c ((e + sgs P c) % 4)) = f (wA P c e) := fun e he => by
    rw [← nof_wA h hc he]
    exact hf _ (wA_lt h hc)
  have q0 := q 0 (by omega)
  have q1 := q 1 (by omega)
  have q2 := q 2 (by omega)
  have q3 := q 3 (by omega)
  unfold sgs at q0 q1 q2 q3
  unfold CrQ
  simp only
  split
  · rename_i hs
    rw [if_pos hs] at q0 q1 q2 q3
    exact ⟨q0, q1, q2, q3⟩
  · rename_i hs
    rw [if_neg hs] at q0 q1 q2 q3
    exact ⟨q0, q1, q2, q3⟩
theorem fc_t {P : Pic} (h : PicW P) {f : Nat → Bool} (hf : Fc P f) {v : Nat} (hv : v < P.1.length) : (dA f (bef P.1.length v) != dA f v) = tC P f (pcx P v) := by
  have hc := h.lt hv
  have hq := fc_q h hf hc
  have hp := pln_at h hv
  unfold CrQ at hq
  unfold tC dA
  simp only at hq
  generalize pcx P v = c at *
  cases hb : pov P v with
  | true =>
    rw [hb] at hp
    rw [← hp] at hq ⊢
    generalize pln P c false = u at *
    split at hq
    · obtain ⟨a, b, e, g⟩ := hq
      rw [b, g]
      rw [← e] at *
      generalize f (2 * bef P.1.length v) = x1 at *
      generalize f (2 * bef P.1.length u) = x2 at *
      generalize f (2 * u) = x3 at *
      generalize f (2 * u + 1) = x4 at *
      clear hv hc hp hb a b e g
      revert x1 x2 x3 x4; decide
    · obtain ⟨a, b, e, g⟩ := hq
      rw [b, g]
      generalize f (2 * bef P.1.length v) = x1 at *
      generalize f (2 * bef P.1.length u) = x2 at *
      generalize f (2 * v + 1) = x3 at *
      generalize f (2 * u + 1) = x4 at *
      clear hv hc hp hb a b e g
      revert x1 x2 x3 x4; decide
  | false =>
    rw [hb] at hp
    rw [← hp] at hq ⊢
    generalize pln P c true = o at *
    split at hq
    · obtain ⟨a, b, e, g⟩ := hq
      rw [a, e]
      generalize f (2 * bef P.1.length v) = x1 at *
      generalize f (2 * bef P.1.length o) = x2 at *
      generalize f (2 * o + 1) = x3 at *
      generalize f (2 * v + 1) = x4 at *
      clear hv hc hp hb a b e g
      revert x1 x2 x3 x4; decide
    · obtain ⟨a, b, e, g⟩ := hq
      rw [a, e]
      generalize f (2 * bef P.1.length v) = x1 at *
      generalize f (2 * bef P.1.length o) = x2 at *
      generalize f (2 * o + 1) = x3 at *
      generalize f (2 * v + 1) = x4 at *
      clear hv hc hp hb a b e g
      revert x1 x2 x3 x4; decide
theorem arc_ind {m : Nat} {p : Nat → Prop} (h0 : p 0) (h : ∀ v, v < m → p (bef m v) → p v) : ∀ a, a < m → p a
  | 0, _ => h0
  | a + 1, ha => h (a + 1) ha (by
    have : bef m (a + 1) = a := by unfold bef; rw [if_pos (by omega)]; omega
    rw [this]
    exact arc_ind h0 h a (by omega))
theorem fc_d {P : Pic} (h : PicW P) {f : Nat → Bool} (hf : Fc P f) (ht : ∀ c, c < P.2.length → tC P f c = false) : ∀ a, a < P.1.length → dA f a = dA f 0 :=
  arc_ind rfl (fun v hv e => by
    have h1 := fc_t h hf hv
    rw [ht _ (h.lt hv), e] at h1
    generalize dA f v = x at *
    generalize dA f 0 = y at *
    cases x <;> cases y <;> simp at h1 ⊢)
/-- nothing but one colour, if nothing changes -/
theorem fc_0 {P : Pic} (h : PicW P) {f : Nat → Bool} (hf : Fc P f) (ht : ∀ c, c < P.2.length → tC P f c = false) (hd : dA f 0 = false) : ∀ w, w < 2 * P.1.length → f w = f 0 := by
  have hda : ∀ a, a < P.1.length → f (2 * a + 1) = f (2 * a) := fun a ha => by
    have h1 := fc_d h hf ht a ha
    rw [hd] at h1
    unfold dA at h1
    generalize f (2 * a) = x at *
    generalize f (2 * a + 1) = y at *
    cases x <;> cases y <;> simp at h1 ⊢
  have hst : ∀ a, a < P.1.length → f (2 * a) = f 0 := arc_ind rfl (fun v hv e => by
    have hc := h.lt hv
    have hq := fc_q h hf hc
    have hp := pln_at h hv
    have ho := (pln_sp h hc true).1
    have hu := (pln_sp h hc false).1
    unfold CrQ at hq
    simp only at hq
    generalize pcx P v = c at *
    rw [hda _ ho, hda _ hu, hda _ (bef_lt ho), hda _ (bef_lt hu)] at hq
    cases hb : pov P v with
    | true =>
      rw [hb] at hp
      rw [← hp] at hq
      split at hq
      · rw [hq.2.1, hq.1, e]
      · rw [hq.2.2.2, hq.1, e]
    | false =>
      rw [hb] at hp
      rw [← hp] at hq
      split at hq
      · rw [hq.2.2.1, hq.2.1, e]
      · rw [hq.1, hq.2.1, e])
  intro w hw
  rcases Nat.mod_two_eq_zero_or_one w with e | e
  · rw [show w = 2 * (w / 2) by omega]; exact hst _ (by omega)
  · rw [show w = 2 * (w / 2) + 1 by omega, hda _ (by omega)]; exact hst _ (by omega)
theorem Fc.x {P : Pic} {f g : Nat → Bool} (hf : Fc P f) (hg : Fc P g) : Fc P (fun w => f w != g w) := fun w hw => by
  show (f (nof P w) != g (nof P w)) = (f w != g w)
  rw [hf w hw, hg w hw]
theorem bx2 : ∀ a b c d : Bool, ((a != c) != (b != d)) = ((a != b) != (c != d)) := by decide
theorem dA_x (f g : Nat → Bool) (a : Nat) : dA (fun w => f w != g w) a = (dA f a != dA g a) := bx2 _ _ _ _
theorem bx4 : ∀ a b c d a' b' c' d' : Bool, ((((a != a') != (b != b')) != ((c != c') != (d != d')))) = (((a != b) != (c != d)) != ((a' != b') != (c' != d'))) := by decide
theorem tC_x (P : Pic) (f g : Nat → Bool) (c : Nat) : tC P (fun w => f w != g w) c = (tC P f c != tC P g c) := bx4 _ _ _ _ _ _ _ _
/-- faces by number -/
noncomputable def rps (P : Pic) : List Nat := (List.range (2 * P.1.length)).filter (fun x => cdc (mnl (orb (nof P)) x))
noncomputable def fix_ (P : Pic) (w : Nat) : Nat := (rps P).idxOf (lst (orb (nof P)) (2 * P.1.length) w)
theorem rps_nd (P : Pic) : (rps P).Nodup := nd_filter List.nodup_range
theorem lst_of {P : Pic} (h : PicW P) {w x : Nat} (hw : w < 2 * P.1.length) (hx : x < 2 * P.1.length) (hm : mnl (orb (nof P)) x) (ho : orb (nof P) x w) : lst (orb (nof P)) (2 * P.1.length) w = x := by
  have he := orb_eqv (nof_inj h)
  obtain ⟨a, b, c⟩ := lst_ok he hw
  exact mnl_eq he a hx c hm (he.2.2 _ _ _ a hw hx b (he.2.1 _ _ hx hw ho))
theorem fix_n {P : Pic} (h : PicW P) {w : Nat} (hw : w < 2 * P.1.length) : fix_ P (nof P w) = fix_ P w := by
  have he := orb_eqv (nof_inj h)
  obtain ⟨a, b, c⟩ := lst_ok he hw
  have hn := nof_lt hw
  unfold fix_
  rw [lst_of h hn a c (he.2.2 _ _ _ a hw hn b ⟨1, rfl⟩)]
theorem fix_at {P : Pic} (h : PicW P) {k : Nat} (hk : k < (rps P).length) : (rps P)[k] < 2 * P.1.length ∧ fix_ P (rps P)[k] = k := by
  have he := orb_eqv (nof_inj h)
  have hm : (rps P)[k] ∈ rps P := List.getElem_mem hk
  have hm2 := mem_reps.mp hm
  refine ⟨hm2.1, ?_⟩
  unfold fix_
  rw [lst_of h hm2.1 hm2.1 hm2.2 ⟨0, rfl⟩]
  have := congrArg (fun l => l[k]?) (nd_idx (rps_nd P))
  simp only [List.getElem?_map] at this
  rw [List.getElem?_eq_getElem hk, List.getElem?_eq_getElem (by simpa using hk), List.getElem_range] at this
  exact Option.some.inj this
/-- colours by a mask; the first face has none -/
noncomputable def colM (P : Pic) (x w : Nat) : Bool := (2 * x).testBit (fix_ P w)
theorem colM_fc {P : Pic} (h : PicW P) (x : Nat) : Fc P (colM P x) := fun w hw => by
  unfold colM
  rw [fix_n h hw]
noncomputable def phi (P : Pic) (x : Nat) : Nat := plm ((List.range P.2.length).map (tC P (colM P x)) ++ [dA (colM P x) 0])
theorem phi_b (P : Pic) (g : Nat → Bool) (d : Bool) (c : Nat) : (plm ((List.range P.2.length).map g ++ [d])).testBit c = if c < P.2.length then g c else if c = P.2.length then d else false := by
  rw [plm_bit]
  by_cases hc : c < P.2.length
  · rw [if_pos hc, List.getD_eq_getElem?_getD, List.getElem?_append_left (by simpa using hc), List.getElem?_map, List.getElem?_eq_getElem (by simpa using hc), List.getElem_range]; rfl
  · rw [if_neg hc, List.getD_eq_getElem?_getD, List.getElem?_append_right (by simpa using Nat.not_lt.mp hc), List.length_map, List.length_range]
    by_cases e : c = P.2.length
    · rw [if_pos e, e, Nat.sub_self]; rfl
    · rw [if_neg e, List.getElem?_eq_none (by simp; omega)]; rfl
theorem phi_inj {P : Pic} (h : PicW P) (hF : (rps P).length = P.2.length + 2) {x y : Nat} (hx : x < 2 ^ (P.2.length + 1)) (hy : y < 2 ^ (P.2.length + 1)) (e : phi P x = phi P y) : x = y := by
  have hb : ∀ c, (phi P x).testBit c = (phi P y).testBit c := fun c => by rw [e]
  unfold phi at hb
  have ht : ∀ c, c < P.2.length → tC P (colM P x) c = tC P (colM P y) c := fun c hc => by
    have := hb c
    rw [phi_b, phi_b, if_pos hc, if_pos hc] at this
    exact this
  have hd : dA (colM P x) 0 = dA (colM P y) 0 := by
    have := hb P.2.length
    rw [phi_b, phi_b] at this
    simpa using this
  have hf := (colM_fc h x).x (colM_fc h y)
  have h0 := fc_0 h hf (fun c hc => by rw [tC_x, ht c hc]; simp) (by rw [dA_x, hd]; simp)
  have all : ∀ k, k < P.2.length + 2 → (2 * x).testBit k = (2 * y).testBit k := by
    have p0 := fix_at h (show 0 < (rps P).length by omega)
    have z : (colM P x (rps P)[0] != colM P y (rps P)[0]) = false := by
      unfold colM
      rw [p0.2]
      simp
    intro k hk
    have pk := fix_at h (show k < (rps P).length by omega)
    have e1 : (colM P x (rps P)[0] != colM P y (rps P)[0]) = (colM P x 0 != colM P y 0) := h0 _ p0.1
    have e2 : (colM P x (rps P)[k] != colM P y (rps P)[k]) = (colM P x 0 != colM P y 0) := h0 _ pk.1
    rw [← e1, z] at e2
    unfold colM at e2
    rw [pk.2] at e2
    generalize (2 * x).testBit k = u at *
    generalize (2 * y).testBit k = v at *
    cases u <;> cases v <;> simp at e2 ⊢
  refine Nat.eq_of_testBit_eq (fun k => ?_)
  by_cases hk : k + 1 < P.2.length + 2
  · have := all (k + 1) hk
    rw [Nat.testBit_succ, Nat.testBit_succ, show 2 * x / 2 = x by omega, show 2 * y / 2 = y by omega] at this
    exact this
  · have hp : 2 ^ (P.2.length + 1) ≤ 2 ^ k := Nat.pow_le_pow_right (by omega) (by omega)
    rw [Nat.testBit_lt_two_pow (by omega), Nat.testBit_lt_two_pow (by omega)]
theorem drw_par {P : Pic} (h : PicW P) (hF : fcC P = P.2.length + 2) : ParL (P.1.map Prod.fst) := by
  have hl := h.len
  by_cases h0 : P.1.length = 0
  · intro j k hj
    simp at hj
    omega
  · have hR : (rps P).length = P.2.length + 2 := by
      rw [← hF, fcC_cnt h h0]
      unfold cnt rps
      rw [List.countP_eq_length_filter]
    obtain ⟨x, hx, ex⟩ := inj_onto (p := phi P) (N := 2 ^ (P.2.length + 1)) (fun x _ => by
      have := plm_lt ((List.range P.2.length).map (tC P (colM P x)) ++ [dA (colM P x) 0])
      unfold phi
      simpa using this) (fun x y hx hy e => phi_inj h hR hx hy e) (y := plm ((List.range P.2.length).map (fun _ => false) ++ [true])) (by
      have := plm_lt ((List.range P.2.length).map (fun _ => false) ++ [true])
      simpa using this)
    have hf := colM_fc h x
    have hb : ∀ c, (phi P x).testBit c = (plm ((List.range P.2.length).map (fun _ => false) ++ [true])).testBit c := fun c => by rw [ex]
    unfold phi at hb
    generalize colM P x = f at *
    have ht : ∀ c, c < P.2.length → tC P f c = false := fun c hc => by
      have := hb c
      rw [phi_b, phi_b, if_pos hc, if_pos hc] at this
      exact this
    have hd : dA f 0 = true := by
      have := hb P.2.length
      rw [phi_b, phi_b] at this
      simpa using this
    have hda : ∀ a, a < P.1.length → f (2 * a + 1) = !(f (2 * a)) := fun a ha => by
      have h1 := fc_d h hf ht a ha
      rw [hd] at h1
      unfold dA at h1
      generalize f (2 * a) = x at *
      generalize f (2 * a + 1) = y at *
      cases x <;> cases y <;> simp at h1 ⊢
    have hcr : ∀ c, c < P.2.length → f (2 * pln P c true) = !(f (2 * bef P.1.length (pln P c true))) ∧ f (2 * pln P c false) = !(f (2 * bef P.1.length (pln P c false))) ∧ f (2 * bef P.1.length (pln P c true)) = !(f (2 * bef P.1.length (pln P c false))) := fun c hc => by
      have hq := fc_q h hf hc
      have ho := (pln_sp h hc true).1
      have hu := (pln_sp h hc false).1
      unfold CrQ at hq
      simp only at hq
      rw [hda _ ho, hda _ hu, hda _ (bef_lt ho), hda _ (bef_lt hu)] at hq
      generalize f (2 * pln P c true) = x1 at *
      generalize f (2 * pln P c false) = x2 at *
      generalize f (2 * bef P.1.length (pln P c true)) = x3 at *
      generalize f (2 * bef P.1.length (pln P c false)) = x4 at *
      split at hq
      · obtain ⟨a, b, e, g⟩ := hq
        cases x1 <;> cases x2 <;> cases x3 <;> cases x4 <;> simp at a b e g ⊢
      · obtain ⟨a, b, e, g⟩ := hq
        cases x1 <;> cases x2 <;> cases x3 <;> cases x4 <;> simp at a b e g ⊢
    have hal : ∀ a, a < P.1.length → f (2 * a) = (f 0 != decide (a % 2 = 1)) := by
      refine arc_ind (by simp) (fun v hv e => ?_)
      have hc := h.lt hv
      have hp := pln_at h hv
      have hq := hcr _ hc
      have s : f (2 * v) = !(f (2 * bef P.1.length v)) := by
        cases hb : pov P v with
        | true => rw [hb] at hp; rw [← hp] at hq; exact hq.1
        | false => rw [hb] at hp; rw [← hp] at hq; exact hq.2.1
      have hpar : bef P.1.length v % 2 = 1 ↔ v % 2 ≠ 1 := by unfold bef; split <;> omega
      rw [s, e]
      by_cases hv2 : v % 2 = 1
      · rw [decide_eq_true hv2, decide_eq_false (fun hh => hpar.mp hh hv2)]
        cases f 0 <;> rfl
      · rw [decide_eq_false hv2, decide_eq_true (hpar.mpr hv2)]
        cases f 0 <;> rfl
    have hpc : ∀ c, c < P.2.length → pln P c true % 2 ≠ pln P c false % 2 := fun c hc e => by
      have ho := (pln_sp h hc true).1
      have hu := (pln_sp h hc false).1
      have h3 := (hcr c hc).2.2
      rw [hal _ (bef_lt ho), hal _ (bef_lt hu)] at h3
      have : bef P.1.length (pln P c true) % 2 = bef P.1.length (pln P c false) % 2 := by unfold bef; split <;> split <;> omega
      rw [this] at h3
      cases f 0 <;> cases decide (bef P.1.length (pln P c false) % 2 = 1) <;> simp at h3
    intro j k hj hk hjk e
    rw [List.length_map] at hj hk
    rw [← pcx_nm, ← pcx_nm] at e
    have pj := pln_at h hj
    have pk := pln_at h hk
    have := hpc _ (h.lt hk)
    rw [e] at pj
    cases h1 : pov P j <;> cases h2 : pov P k <;> rw [h1] at pj <;> rw [h2] at pk
    · omega
    · omega
    · omega
    · omega
