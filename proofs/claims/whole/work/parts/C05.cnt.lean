/-! the weight of a way by its rings -/
theorem jn_same {r : Nat → Nat} {a b : Nat} (h : r a = r b) : jn r a b = r := funext (fun k => by
  unfold jn
  split
  · rename_i g; rw [← h, g]
  · rfl)
theorem jn_less {r : Nat → Nat} {a b m : Nat} (ha : a < m) (hb : b < m) (h : r a ≠ r b) : cnt (lab (jn r a b)) m + 1 ≤ cnt (lab r) m := by
  have he := lab_eqv r m
  have he2 := lab_eqv (jn r a b) m
  have nd : (m :: (List.range m).filter (fun x => cdc (mnl (lab (jn r a b)) x))).Nodup := List.nodup_cons.mpr ⟨fun hh => by have := (mem_reps.mp hh).1; omega, nd_filter List.nodup_range⟩
  have key := len_inj (m :: (List.range m).filter (fun x => cdc (mnl (lab (jn r a b)) x))) ((List.range m).filter (fun x => cdc (mnl (lab r) x))) (fun x => if x = m then lst (lab r) m a else if jn r a b x = r b then lst (lab r) m b else lst (lab r) m x) nd ?_ ?_
  · unfold cnt
    rw [List.countP_eq_length_filter, List.countP_eq_length_filter]
    simp only [List.length_cons] at key
    omega
  · intro x hx
    have ok : ∀ y, y < m → lst (lab r) m y ∈ (List.range m).filter (fun x => cdc (mnl (lab r) x)) := fun y hy => by
      have := lst_ok he hy
      exact mem_reps.mpr ⟨this.1, this.2.2⟩
    show (if x = m then lst (lab r) m a else if jn r a b x = r b then lst (lab r) m b else lst (lab r) m x) ∈ _
    split
    · exact ok a ha
    · rename_i hxm
      split
      · exact ok b hb
      · exact ok x ((mem_reps.mp ((List.mem_cons.mp hx).resolve_left hxm)).1)
  · intro x hx y hy e
    have hl : ∀ z, z < m → r (lst (lab r) m z) = r z := fun z hz => (lst_ok he hz).2.1
    have e' : r (if x = m then lst (lab r) m a else if jn r a b x = r b then lst (lab r) m b else lst (lab r) m x) = r (if y = m then lst (lab r) m a else if jn r a b y = r b then lst (lab r) m b else lst (lab r) m y) := congrArg r e
    have jb : ∀ z, jn r a b z ≠ r b → r z ≠ r a ∧ jn r a b z = r z := fun z hz => by
      unfold jn at hz ⊢
      by_cases g : r z = r a
      · rw [if_pos g] at hz; exact absurd rfl hz
      · rw [if_neg g]; exact ⟨g, rfl⟩
    by_cases hxm : x = m
    · rw [if_pos hxm, hl a ha] at e'
      by_cases hym : y = m
      · rw [hxm, hym]
      · rw [if_neg hym] at e'
        have y1 := mem_reps.mp ((List.mem_cons.mp hy).resolve_left hym)
        by_cases gy : jn r a b y = r b
        · rw [if_pos gy, hl b hb] at e'; exact absurd e' h
        · rw [if_neg gy, hl y y1.1] at e'; exact absurd e'.symm (jb y gy).1
    · rw [if_neg hxm] at e'
      have x1 := mem_reps.mp ((List.mem_cons.mp hx).resolve_left hxm)
      by_cases hym : y = m
      · rw [if_pos hym, hl a ha] at e'
        by_cases gx : jn r a b x = r b
        · rw [if_pos gx, hl b hb] at e'; exact absurd e'.symm h
        · rw [if_neg gx, hl x x1.1] at e'; exact absurd e' (jb x gx).1
      · rw [if_neg hym] at e'
        have y1 := mem_reps.mp ((List.mem_cons.mp hy).resolve_left hym)
        have done : jn r a b x = jn r a b y → x = y := fun g => mnl_eq he2 x1.1 y1.1 x1.2 y1.2 g
        by_cases gx : jn r a b x = r b
        · by_cases gy : jn r a b y = r b
          · exact done (gx.trans gy.symm)
          · rw [if_pos gx, if_neg gy, hl b hb, hl y y1.1] at e'
            exact absurd ((jb y gy).2.trans e'.symm) gy
        · by_cases gy : jn r a b y = r b
          · rw [if_neg gx, if_pos gy, hl x x1.1, hl b hb] at e'
            exact absurd ((jb x gx).2.trans e') gx
          · rw [if_neg gx, if_neg gy, hl x x1.1, hl y y1.1] at e'
            exact done (by rw [(jb x gx).2, (jb y gy).2, e'])
theorem jn_step {r : Nat → Nat} {a b m : Nat} (ha : a < m) (hb : b < m) : (jf r a b = kK ∧ cnt (lab (jn r a b)) m = cnt (lab r) m) ∨ (jf r a b = kB ∧ cnt (lab (jn r a b)) m + 1 = cnt (lab r) m) := by
  unfold jf
  by_cases h : r a = r b
  · rw [if_pos h, jn_same h]
    exact Or.inl ⟨rfl, rfl⟩
  · rw [if_neg h]
    have h1 := jn_cnt r a b m
    have h2 := jn_less ha hb h
    exact Or.inr ⟨rfl, by omega⟩
/-- k joins that close a ring, q others, e crossings like the signs -/
def wf (k q e : Nat) : Int := kK ^ k * kB ^ q * kB ^ e
theorem wf_k (k q e : Nat) : wf k q e * kK = wf (k + 1) q e := by
  unfold wf
  rw [Int.pow_succ, Int.mul_assoc, Int.mul_assoc, Int.mul_assoc, Int.mul_assoc]
  congr 1
  rw [Int.mul_comm kK, Int.mul_assoc]
theorem wf_q (k q e : Nat) : wf k q e * kB = wf k (q + 1) e := by
  unfold wf
  rw [Int.pow_succ kB q, Int.mul_assoc, Int.mul_comm (kB ^ e) kB, ← Int.mul_assoc, ← Int.mul_assoc]
theorem wf_e (k q e : Nat) : wf k q e * kB = wf k q (e + 1) := by
  unfold wf
  rw [Int.pow_succ kB e, ← Int.mul_assoc]
def lk (g s : Nat) : Nat → Nat
  | 0 => 0
  | c + 1 => lk g s c + (if g.testBit c = s.testBit c then 1 else 0)
theorem wgt_f {P : Pic} (h : PicW P) (hs : ∀ c, c < P.2.length → psg P c = false) (s g : Nat) : ∀ c, c ≤ P.2.length → ∃ k q, k + q = 2 * c ∧ cnt (lab (lpR P g c)) P.1.length + q = P.1.length ∧ wgt P s g c = wf k q (lk g s c)
  | 0, _ => ⟨0, 0, rfl, by
    show cnt (lab (fun k => k)) P.1.length + 0 = _
    have h1 : cnt (lab (fun k => k)) P.1.length = (List.range P.1.length).length := by
      unfold cnt
      rw [List.countP_eq_length]
      intro x _
      exact cdc_iff.mpr (fun y hy e => absurd e (Nat.ne_of_lt hy))
    rw [h1, List.length_range]; rfl, rfl⟩
  | c + 1, hc => by
    obtain ⟨k, q, h1, h2, h3⟩ := wgt_f h hs s g c (by omega)
    have hcn : c < P.2.length := by omega
    have o1 := (pln_sp h hcn true).1
    have u1 := (pln_sp h hcn false).1
    have bo := bef_lt o1
    have bu := bef_lt u1
    have hst : lpR P g (c + 1) = if g.testBit c = true then jn (jn (lpR P g c) (bef P.1.length (pln P c true)) (pln P c false)) (bef P.1.length (pln P c false)) (pln P c true) else jn (jn (lpR P g c) (bef P.1.length (pln P c true)) (bef P.1.length (pln P c false))) (pln P c true) (pln P c false) := by
      show (if (g.testBit c == false) = psg P c then _ else _) = _
      rw [hs c hcn]
      cases g.testBit c <;> rfl
    have two : ∀ (a b a' b' : Nat) (t : Bool) (e : Nat), a < P.1.length → b < P.1.length → a' < P.1.length → b' < P.1.length → (bw t = kB ∧ e = 1 ∨ bw t = 1 ∧ e = 0) → ∃ k' q', k' + q' = 2 * (c + 1) ∧ cnt (lab (jn (jn (lpR P g c) a b) a' b')) P.1.length + q' = P.1.length ∧ wgt P s g c * (jf (lpR P g c) a b * jf (jn (lpR P g c) a b) a' b' * bw t) = wf k' q' (lk g s c + e) := by
      intro a b a' b' t e ha hb ha' hb' ht
      have fin : ∀ k' q', wf k' q' (lk g s c) * bw t = wf k' q' (lk g s c + e) := fun k' q' => by
        rcases ht with ⟨t1, t2⟩ | ⟨t1, t2⟩
        · rw [t1, t2, wf_e]
        · rw [t1, t2, Int.mul_one]; rfl
      rw [h3, ← Int.mul_assoc, ← Int.mul_assoc]
      rcases jn_step (r := lpR P g c) ha hb with ⟨x1, x2⟩ | ⟨x1, x2⟩ <;> rcases jn_step (r := jn (lpR P g c) a b) ha' hb' with ⟨y1, y2⟩ | ⟨y1, y2⟩ <;> rw [x1, y1]
      · exact ⟨k + 1 + 1, q, by omega, by omega, by rw [wf_k, wf_k, fin]⟩
      · exact ⟨k + 1, q + 1, by omega, by omega, by rw [wf_k, wf_q, fin]⟩
      · exact ⟨k + 1, q + 1, by omega, by omega, by rw [wf_q, wf_k, fin]⟩
      · exact ⟨k, q + 1 + 1, by omega, by omega, by rw [wf_q, wf_q, fin]⟩
    rw [hst]
    show ∃ k q, _ ∧ _ ∧ wgt P s g c * _ = wf k q (lk g s c + (if g.testBit c = s.testBit c then 1 else 0))
    cases hg : g.testBit c with
    | true =>
      rw [if_pos rfl, if_pos rfl]
      exact two _ _ _ _ _ _ bo u1 bu o1 (by cases s.testBit c <;> decide)
    | false =>
      rw [if_neg (by decide), if_neg (by decide)]
      exact two _ _ _ _ _ _ bo bu o1 u1 (by cases s.testBit c <;> decide)
theorem wgt_n {P : Pic} (h : PicW P) (hs : ∀ c, c < P.2.length → psg P c = false) (h0 : P.1.length ≠ 0) (s g : Nat) : wgt P s g P.2.length = wf (rings P g) (2 * P.2.length - rings P g) (lk g s P.2.length) := by
  obtain ⟨k, q, h1, h2, h3⟩ := wgt_f h hs s g P.2.length (Nat.le_refl _)
  have hgw : gw P g g := fun c hc => by rw [hs c hc]; cases g.testBit c <;> rfl
  have e1 : rings P g = cnt (lab (lpR P g P.2.length)) P.1.length := by
    rw [← lps_rings h hgw]
    unfold lps
    rw [if_neg (by have := h.len; omega), pc_cnt h hgw]
  have hl := h.len
  rw [h3, e1, show cnt (lab (lpR P g P.2.length)) P.1.length = k by omega, show 2 * P.2.length - k = q by omega]
