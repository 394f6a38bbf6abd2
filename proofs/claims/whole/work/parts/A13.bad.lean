/-! DRAWABLE pictures are none of the two bad words -/
theorem fcl_cg {P R : Pic} {N : Nat} (h : ∀ w, w < N → nof R w = nof P w) (hN : ∀ w, w < N → nof P w < N) (first : Nat) : ∀ n w g, w < N → fcl R first n w g = fcl P first n w g
  | 0, w, g, _ => rfl
  | n + 1, w, g, hw => by
    unfold fcl
    rw [h w hw, fcl_cg h hN first n _ _ (hN w hw)]
theorem fcs_cg {P R : Pic} (hl : R.1.length = P.1.length) (h : ∀ w, w < 2 * P.1.length → nof R w = nof P w) : ∀ n w g c, w + n ≤ 2 * P.1.length → fcs R n w g c = fcs P n w g c
  | 0, w, g, c, _ => rfl
  | n + 1, w, g, c, hw => by
    unfold fcs
    rw [fcs_cg hl h n _ _ _ (by omega), fcs_cg hl h n _ _ _ (by omega), hl, fcl_cg h (fun w hw => nof_lt hw) w _ _ _ (by omega)]
theorem fcC_cg {P R : Pic} (hl : R.1.length = P.1.length) (h : ∀ w, w < 2 * P.1.length → nof R w = nof P w) : fcC R = fcC P := by
  unfold fcC
  rw [hl, fcs_cg hl h _ _ _ _ (by omega)]
/-- of a word and signs the picture whose first visits are over -/
def pbw (w : List Nat) (s : List Bool) : Pic := ((List.range w.length).map (fun k => (w.getD k 0, decide (w.idxOf (w.getD k 0) = k))), s)
theorem pbw_c (w : List Nat) (s : List Bool) {k : Nat} (hk : k < w.length) : pcx (pbw w s) k = w.getD k 0 ∧ pov (pbw w s) k = decide (w.idxOf (w.getD k 0) = k) := by
  unfold pcx pov pbw
  simp only [List.getD_eq_getElem?_getD (l := List.map _ _)]
  rw [List.getElem?_map, List.getElem?_eq_getElem (by simpa using hk), List.getElem_range]
  exact ⟨rfl, rfl⟩
theorem nof_b (P : Pic) (w : Nat) : nof P w = if ((pov P (nfv P w) != psg P (pcx P (nfv P w))) != decide (w % 2 = 1)) = true then 2 * agn P (nfv P w) else 2 * bef P.1.length (agn P (nfv P w)) + 1 := by
  rw [nof_e]
  have e : 2 ≤ nfe P w ↔ ((pov P (nfv P w) != psg P (pcx P (nfv P w))) != decide (w % 2 = 1)) = true := by
    unfold nfe
    generalize pov P (nfv P w) = a
    generalize psg P (pcx P (nfv P w)) = b
    rcases Nat.mod_two_eq_zero_or_one w with e | e <;> rw [e] <;> cases a <;> cases b <;> decide
  by_cases h : 2 ≤ nfe P w
  · rw [if_pos h, if_pos (e.mp h)]
  · rw [if_neg h, if_neg (fun hh => h (e.mpr hh))]
theorem bad_fc : ∀ w ∈ badW, ∀ x, x < 128 → fcC (pbw w ((List.range 7).map (fun c => x.testBit c))) ≠ 9 := by
  have h : (badW.all (fun w => (List.range 128).all (fun x => !(decide (fcC (pbw w ((List.range 7).map (fun c => x.testBit c))) = 9))))) = true := by decide +kernel
  intro w hw x hx e
  have h1 := List.all_eq_true.mp (List.all_eq_true.mp h w hw) x (List.mem_range.mpr hx)
  rw [decide_eq_true e] at h1
  cases h1
theorem drw_bad {P : Pic} (h : PicW P) (hF : fcC P = P.2.length + 2) : P.1.map Prod.fst ∉ badW := fun hb => by
  have h14 := badW_len _ hb
  rw [List.length_map] at h14
  have hl := h.len
  have h7 : P.2.length = 7 := by omega
  generalize hw : P.1.map Prod.fst = w at *
  have hwl : w.length = P.1.length := by rw [← hw, List.length_map]
  have hwk : ∀ k, w.getD k 0 = pcx P k := fun k => by rw [← hw, ← pcx_nm]
  -- the first visit of a crossing
  have hfi : ∀ c, c < 7 → w.idxOf c < P.1.length ∧ pcx P (w.idxOf c) = c := fun c hc => by
    have hm : c ∈ w := by
      rw [← hw]
      exact List.mem_map.mpr ⟨(c, true), (h.2.2.1 c true).mpr (by omega), rfl⟩
    have h1 := List.idxOf_lt_length_of_mem hm
    refine ⟨by omega, ?_⟩
    rw [← hwk]
    exact idx_at hm
  have key : ∀ x : Nat, (∀ c, c < 7 → x.testBit c = (psg P c == pov P (w.idxOf c))) → fcC (pbw w ((List.range 7).map (fun c => x.testBit c))) = fcC P := by
    intro x hx
    have hlen : (pbw w ((List.range 7).map (fun c => x.testBit c))).1.length = P.1.length := by unfold pbw; simp; exact hwl
    have hpc : ∀ k, k < P.1.length → pcx (pbw w ((List.range 7).map (fun c => x.testBit c))) k = pcx P k := fun k hk => by rw [(pbw_c w _ (by omega)).1, hwk]
    have hpc2 : pcx (pbw w ((List.range 7).map (fun c => x.testBit c))) = pcx P := funext (fun k => by
      by_cases hk : k < P.1.length
      · exact hpc k hk
      · unfold pcx
        rw [List.getD_eq_getElem?_getD, List.getD_eq_getElem?_getD, List.getElem?_eq_none (by omega), List.getElem?_eq_none (by omega)])
    have hag : ∀ k, agn (pbw w ((List.range 7).map (fun c => x.testBit c))) k = agn P k := fun k => agn_cg hlen hpc2 k
    have hnv : ∀ v, nfv (pbw w ((List.range 7).map (fun c => x.testBit c))) v = nfv P v := fun v => by unfold nfv; rw [hlen]
    have hbeta : ∀ v, v < P.1.length → (pov (pbw w ((List.range 7).map (fun c => x.testBit c))) v != psg (pbw w ((List.range 7).map (fun c => x.testBit c))) (pcx P v)) = (pov P v != psg P (pcx P v)) := fun v hv => by
      have hc := h.lt hv
      obtain ⟨f1, f2⟩ := hfi (pcx P v) (by omega)
      have es : psg (pbw w ((List.range 7).map (fun c => x.testBit c))) (pcx P v) = (psg P (pcx P v) == pov P (w.idxOf (pcx P v))) := by
        rw [← hx _ (by omega)]
        unfold psg pbw
        rw [List.getD_eq_getElem?_getD, List.getElem?_map, List.getElem?_eq_getElem (by simp; omega), List.getElem_range]; rfl
      rw [es, (pbw_c w _ (by omega)).2, hwk]
      by_cases hf : w.idxOf (pcx P v) = v
      · rw [decide_eq_true hf, hf]
        cases psg P (pcx P v) <;> cases pov P v <;> rfl
      · rw [decide_eq_false hf]
        have ho : pov P (w.idxOf (pcx P v)) = !(pov P v) := by
          have : pov P (w.idxOf (pcx P v)) ≠ pov P v := fun hh => hf (nd_at h.2.1 f1 hv f2 hh)
          cases a : pov P (w.idxOf (pcx P v)) <;> cases b : pov P v <;> rw [a, b] at this <;> simp at this ⊢
        rw [ho]
        cases psg P (pcx P v) <;> cases pov P v <;> rfl
    refine fcC_cg hlen (fun v hv => ?_)
    rw [nof_b, nof_b, hnv, hag, hlen, hpc2, hbeta _ (nfv_lt hv)]
  have hx := plm_lt ((List.range 7).map (fun c => psg P c == pov P (w.idxOf c)))
  rw [List.length_map, List.length_range] at hx
  refine bad_fc w hb _ hx ?_
  rw [key _ (fun c hc => ?_), hF, h7]
  rw [plm_bit, List.getD_eq_getElem?_getD, List.getElem?_map, List.getElem?_eq_getElem (by simpa using hc), List.getElem_range]; rfl
theorem hasD : OwedD := fun _ h hF => h.ok (drw_par h hF) (drw_bad h hF)
