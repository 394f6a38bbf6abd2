/-! THE MODEL: visits that come one by one -/
/-- a picture on its way -/
def RdQ (P : Pic) : Prop := P.2.length ≤ 7 ∧ P.1.Nodup ∧ (∀ q ∈ P.1, q.1 < P.2.length) ∧ (∀ c, c < P.2.length → ∃ b, (c, b) ∈ P.1) ∧ nubF [] (P.1.map Prod.fst) = List.range P.2.length
theorem RdQ.nil : RdQ ([], []) := ⟨by simp, by simp, by simp, fun c hc => absurd hc (by simp), rfl⟩
def mtn (P : Pic) (c : Nat) : Nat := (if (c, true) ∈ P.1 then 1 else 0) + (if (c, false) ∈ P.1 then 2 else 0)
def MRd (P : Pic) (I : KI) : Prop := I 101 5 = (P.2.length : Int) ∧ I 101 27 = (P.1.length : Int) ∧ (∀ k : Nat, k < P.1.length → I 106 (k : Int) = (pcx P k : Int) ∧ I 107 (k : Int) = bi (pov P k)) ∧ (∀ c : Nat, c < P.2.length → I 108 (c : Int) = sgi (psg P c)) ∧ ∀ c : Nat, c < P.2.length → I 119 (c : Int) = (mtn P c : Int)
theorem MRd.fr {P : Pic} {I J : KI} (h : MRd P I) (hf : ∀ a k, (a = 101 ∧ (k = 5 ∨ k = 27)) ∨ (106 ≤ a ∧ a ≤ 108) ∨ a = 119 → J a k = I a k) : MRd P J := by
  obtain ⟨a, b, c, e, g⟩ := h
  exact ⟨by rw [hf _ _ (by omega)]; exact a, by rw [hf _ _ (by omega)]; exact b, fun k hk => by rw [hf _ _ (by omega), hf _ _ (by omega)]; exact c k hk, fun k hk => by rw [hf _ _ (by omega)]; exact e k hk, fun k hk => by rw [hf _ _ (by omega)]; exact g k hk⟩
theorem plc_neg {P : Pic} {c : Nat} {b : Bool} : plc P c b < 0 ↔ (c, b) ∉ P.1 := by
  refine ⟨plc_not, fun h => ?_⟩
  unfold plc fnI
  split
  · rename_i hl
    have h2 := fnd_spec hl
    rw [Bool.and_eq_true, decide_eq_true_eq, beq_iff_eq] at h2
    have := pcx_mem hl
    rw [h2.1, h2.2] at this
    exact absurd this h
  · omega
theorem mcm_n {P : Pic} (h : RdQ P) {b : Bool} : mcm P (P.2.length : Int) b = decide (P.2.length < 7) := by
  have hn : (P.2.length, b) ∉ P.1 := fun hm => by have := h.2.2.1 _ hm; simp at this
  unfold mcm
  rw [decide_eq_true (show (0 : Int) ≤ (P.2.length : Int) by omega), decide_eq_true (show (P.2.length : Int) ≤ (P.2.length : Int) by omega), Int.toNat_natCast, decide_eq_true (plc_neg.mpr hn)]
  by_cases h7 : P.2.length < 7
  · rw [decide_eq_true h7, decide_eq_true (by omega)]; rfl
  · rw [decide_eq_false h7, decide_eq_false (by omega)]; rfl
theorem mcm_lt {P : Pic} (h : RdQ P) {c : Nat} {b : Bool} (hc : c < P.2.length) : mcm P (c : Int) b = !(decide ((c, b) ∈ P.1)) := by
  have h7 := h.1
  unfold mcm
  rw [decide_eq_true (show (0 : Int) ≤ (c : Int) by omega), decide_eq_true (show (c : Int) ≤ (P.2.length : Int) by omega), decide_eq_true (show (c : Int) < 7 by omega), Int.toNat_natCast]
  by_cases hm : (c, b) ∈ P.1
  · rw [decide_eq_true hm, decide_eq_false (fun hh => plc_neg.mp hh hm)]; rfl
  · rw [decide_eq_false hm, decide_eq_true (plc_neg.mpr hm)]; rfl
theorem mcm_o {P : Pic} {c : Int} {b : Bool} (hc : c < 0 ∨ (P.2.length : Int) < c) : mcm P c b = false := by
  unfold mcm
  rcases hc with hc | hc
  · rw [decide_eq_false (show ¬ 0 ≤ c by omega)]; rfl
  · rw [decide_eq_false (show ¬ c ≤ (P.2.length : Int) by omega)]; simp
theorem mtn_i {P : Pic} (h : RdQ P) {c : Nat} (hc : c < P.2.length) (b : Bool) : mtn P c = (if b then 2 else 1) ↔ (c, b) ∉ P.1 := by
  obtain ⟨x, hx⟩ := h.2.2.2.1 c hc
  unfold mtn
  cases b
  · cases x
    · by_cases h1 : (c, true) ∈ P.1 <;> simp [h1, hx]
    · by_cases h1 : (c, false) ∈ P.1 <;> simp [h1, hx]
  · cases x
    · by_cases h1 : (c, true) ∈ P.1 <;> simp [h1, hx]
    · by_cases h1 : (c, false) ∈ P.1 <;> simp [h1, hx]
theorem t_M_mayCome {xs : KS} {d : Nat} {P : Pic} {c : Int} {b : Bool} {G : KG} {I : KI} {Q : KQ} (hP : MRd P I) (hok : RdQ P) (h : Q (bi (mcm P c b)) G I) : kWP xs true (d + 1) 0 0 185 0 [(0, 19, 0, 101), (1, 0, 0, c), (2, 0, 0, bi b)] [] G I Q := by
  have h7 := hok.1
  refine b_M_mayCome_0 ?_
  rw [hP.1, w32_id (by omega) (by omega)]
  refine ⟨fun h1 => t_M_within ⟨fun h2 => ?_, fun h2 => ?_⟩, fun h1 => ?_⟩
  · have h2 := of_decide_eq_false (bi0 h2)
    rw [mcm_o (by omega)] at h; exact h
  · have h2 := of_decide_eq_true (bi1 h2)
    obtain ⟨k, rfl⟩ : ∃ k : Nat, c = k := ⟨c.toNat, by omega⟩
    have hk : k < P.2.length := by omega
    rw [mcm_lt hok hk] at h
    have hm := mtn_i hok hk b
    rw [hP.2.2.2.2 k hk]
    refine ⟨by omega, fun h3 => ?_, fun h3 => ?_⟩
    · have h3 := bi0 h3
      subst h3
      simp only [Bool.false_eq_true, if_false] at hm
      refine ⟨fun h4 => ?_, fun h4 => ?_⟩
      · have : (k, false) ∈ P.1 := Decidable.not_not.mp (fun hh => h4 (by rw [hm.mpr hh]; rfl))
        rw [decide_eq_true this] at h; exact h
      · have : (k, false) ∉ P.1 := hm.mp (by omega)
        rw [decide_eq_false this] at h; exact h
    · have h3 := bi1 h3
      subst h3
      simp only [if_true] at hm
      refine ⟨fun h4 => ?_, fun h4 => ?_⟩
      · have : (k, true) ∈ P.1 := Decidable.not_not.mp (fun hh => h4 (by rw [hm.mpr hh]; rfl))
        rw [decide_eq_true this] at h; exact h
      · have : (k, true) ∉ P.1 := hm.mp (by omega)
        rw [decide_eq_false this] at h; exact h
  · rw [h1, mcm_n hok] at h
    refine ⟨fun h2 => ?_, fun h2 => ?_⟩
    · rw [decide_eq_false (by omega)] at h; exact h
    · rw [decide_eq_true (by omega)] at h; exact h
theorem amc_i {P : Pic} (h : RdQ P) (b : Bool) : amc P b = true ↔ (P.2.length < 7 ∨ ∃ c, c < P.2.length ∧ (c, b) ∉ P.1) := by
  unfold amc
  rw [List.any_eq_true]
  constructor
  · rintro ⟨c, hc, e⟩
    have hc := List.mem_range.mp hc
    by_cases hcn : c = P.2.length
    · subst hcn
      rw [mcm_n h] at e
      exact Or.inl (of_decide_eq_true e)
    · have hl : c < P.2.length := by omega
      rw [mcm_lt h hl] at e
      refine Or.inr ⟨c, hl, fun hm => ?_⟩
      rw [decide_eq_true hm] at e; cases e
  · rintro (h7 | ⟨c, hc, hm⟩)
    · exact ⟨P.2.length, List.mem_range.mpr (by omega), by rw [mcm_n h, decide_eq_true h7]⟩
    · exact ⟨c, List.mem_range.mpr (by omega), by rw [mcm_lt h hc, decide_eq_false hm]; rfl⟩
theorem t_M_mayAny {xs : KS} {d : Nat} {P : Pic} {b : Bool} {G : KG} {I : KI} {Q : KQ} (hP : MRd P I) (hok : RdQ P) (h : Q (bi (amc P b)) G I) : kWP xs true (d) 0 0 186 0 [(0, 19, 0, 101), (1, 0, 0, bi b)] [] G I Q := by
  have h7 := hok.1
  have ha := amc_i hok b
  have main : ∀ f0 : Bool, (f0 = true ↔ P.2.length < 7) → kWP xs true (d) 0 0 186 17 [(0, 19, 0, 101), (1, 0, 0, bi b), (2, 0, 0, bi f0), (3, 0, 0, ((0 : Nat) : Int))] [] G I Q := by
    intro f0 hf0
    refine loop_up (n := P.2.length) (W := fun c => ∀ fl : Bool, (fl = true ↔ (P.2.length < 7 ∨ ∃ e, e < c ∧ (e, b) ∉ P.1)) → kWP xs true (d) 0 0 186 17 [(0, 19, 0, 101), (1, 0, 0, bi b), (2, 0, 0, bi fl), (3, 0, 0, (c : Int))] [] G I Q) ?_ ?_ (Nat.zero_le _) f0 ⟨fun hh => Or.inl (hf0.mp hh), fun hh => hh.elim hf0.mpr (fun ⟨e, he, _⟩ => absurd he (Nat.not_lt_zero e))⟩
    · intro fl hfl
      have e : amc P b = fl := Bool.eq_iff_iff.mpr (ha.trans hfl.symm)
      rw [e] at h
      refine b_M_mayAny_17 ?_
      rw [hP.1]
      exact ⟨fun _ => kzr_bi h, fun hh => by omega⟩
    · intro c hc ih fl hfl
      have hm := mtn_i hok hc b
      refine b_M_mayAny_17 ?_
      rw [hP.1, w32_inc (by omega), hP.2.2.2.2 c hc]
      refine ⟨fun hh => by omega, fun _ => ⟨fun h1 => ?_, fun h1 => ⟨by omega, fun h2 => ?_, fun h2 => ?_⟩⟩⟩
      · have h1 := bi1 h1
        exact ih true ⟨fun _ => (hfl.mp h1).elim Or.inl (fun ⟨e, he, g⟩ => Or.inr ⟨e, by omega, g⟩), fun _ => rfl⟩
      · have h1 := bi0 h1
        have no : ¬ (P.2.length < 7 ∨ ∃ e, e < c ∧ (e, b) ∉ P.1) := fun hh => by have := hfl.mpr hh; rw [h1] at this; cases this
        have h2 := bi0 h2
        subst h2
        simp only [Bool.false_eq_true, if_false] at hm
        refine ⟨fun h3 => ih false ⟨fun hh => absurd hh (by simp), fun hh => ?_⟩, fun h3 => ih true ⟨fun _ => Or.inr ⟨c, by omega, hm.mp (by omega)⟩, fun _ => rfl⟩⟩
        exfalso
        rcases hh with hh | ⟨e, he, g⟩
        · exact no (Or.inl hh)
        · by_cases hec : e = c
          · subst hec; exact h3 (by rw [hm.mpr g]; rfl)
          · exact no (Or.inr ⟨e, by omega, g⟩)
      · have h1 := bi0 h1
        have no : ¬ (P.2.length < 7 ∨ ∃ e, e < c ∧ (e, b) ∉ P.1) := fun hh => by have := hfl.mpr hh; rw [h1] at this; cases this
        have h2 := bi1 h2
        subst h2
        simp only [if_true] at hm
        refine ⟨fun h3 => ih false ⟨fun hh => absurd hh (by simp), fun hh => ?_⟩, fun h3 => ih true ⟨fun _ => Or.inr ⟨c, by omega, hm.mp (by omega)⟩, fun _ => rfl⟩⟩
        exfalso
        rcases hh with hh | ⟨e, he, g⟩
        · exact no (Or.inl hh)
        · by_cases hec : e = c
          · subst hec; exact h3 (by rw [hm.mpr g]; rfl)
          · exact no (Or.inr ⟨e, by omega, g⟩)
  refine b_M_mayAny_0 ?_
  rw [hP.1]
  exact ⟨fun h1 => main false ⟨fun hh => absurd hh (by simp), fun hh => by omega⟩, fun h1 => main true ⟨fun _ => by omega, fun _ => rfl⟩⟩
/-- what coming visits may change -/
def cfr (I I' : KI) : Prop := ∀ a k, ¬ (a = 101 ∧ (k = 5 ∨ k = 27)) → ¬ ((106 ≤ a ∧ a ≤ 108) ∨ a = 119) → I' a k = I a k
theorem cfr.tr {I J K : KI} (h : cfr I J) (g : cfr J K) : cfr I K := fun a k h1 h2 => (g a k h1 h2).trans (h a k h1 h2)
theorem cfr.ms {I J : KI} (h : cfr I J) : mscr I J := fun a k n1 n2 => h a k (by omega) (by omega)
theorem rst_q {P : Pic} {c : Nat} {o s : Bool} (h : RdQ P) (hc : c ≤ P.2.length) (h7 : c < 7) (hn : (c, o) ∉ P.1) : RdQ (rst P c o s) := by
  obtain ⟨a, b, e, g, nb⟩ := h
  have hs : (rst P c o s).2.length = if c < P.2.length then P.2.length else P.2.length + 1 := by
    rw [rst_sg]; split <;> simp
  refine ⟨by rw [hs]; split <;> omega, ?_, fun q hq => ?_, fun x hx => ?_, ?_⟩
  · rw [rst_vis hc, List.nodup_append]
    refine ⟨b, by simp, fun x hx y hy => ?_⟩
    rw [List.mem_singleton.mp hy]
    exact fun e => hn (by rw [← e]; exact hx)
  · rw [rst_vis hc] at hq
    rw [hs]
    rcases List.mem_append.mp hq with hq | hq
    · have := e q hq
      split <;> omega
    · rw [List.mem_singleton.mp hq]
      show c < _
      split <;> omega
  · rw [rst_vis hc]
    rw [hs] at hx
    by_cases hxn : x < P.2.length
    · obtain ⟨y, hy⟩ := g x hxn
      exact ⟨y, List.mem_append.mpr (Or.inl hy)⟩
    · have : x = c := by
        split at hx <;> omega
      exact ⟨o, List.mem_append.mpr (Or.inr (by rw [this]; simp))⟩
  · rw [rst_vis hc, List.map_append, nubF_app, nb, hs]
    show nubF (if c ∈ List.range P.2.length then List.range P.2.length else List.range P.2.length ++ [c]) [] = _
    unfold nubF
    by_cases hcn : c < P.2.length
    · rw [if_pos (List.mem_range.mpr hcn), if_pos hcn]
    · rw [if_neg (fun hh => hcn (List.mem_range.mp hh)), if_neg hcn, List.range_succ, show c = P.2.length by omega]
theorem mtn_r {P : Pic} {c x : Nat} {o s : Bool} (hc : c ≤ P.2.length) (hn : (c, o) ∉ P.1) : mtn (rst P c o s) x = mtn P x + (if x = c then (if o then 1 else 2) else 0) := by
  unfold mtn
  rw [rst_vis hc]
  simp only [List.mem_append, List.mem_singleton, Prod.mk.injEq]
  by_cases hx : x = c
  · subst hx
    cases o
    · by_cases h1 : (x, true) ∈ P.1 <;> simp [h1, hn]
    · by_cases h1 : (x, false) ∈ P.1 <;> simp [h1, hn]
  · simp [hx]
theorem mtn_or {P : Pic} {c : Nat} {o : Bool} (hn : (c, o) ∉ P.1) : kior (mtn P c : Int) (if o then 1 else 2) = ((mtn P c + (if o then 1 else 2) : Nat) : Int) := by
  unfold mtn
  cases o
  · by_cases h1 : (c, true) ∈ P.1 <;> simp [h1, hn] <;> decide
  · by_cases h1 : (c, false) ∈ P.1 <;> simp [h1, hn] <;> decide
theorem RdQ.len {P : Pic} (h : RdQ P) {c : Nat} {o : Bool} (hc : c < 7) (hn : (c, o) ∉ P.1) : P.1.length < 14 := rd_lt ⟨h.2.1, fun q hq => by have := h.2.2.1 q hq; have := h.1; omega⟩ hc hn
theorem t_M_comes {xs : KS} {d c : Nat} {o s : Bool} {P : Pic} {G : KG} {I : KI} {Q : KQ} (hP : MRd P I) (hok : RdQ P) (hc : c ≤ P.2.length) (h7 : c < 7) (hn : (c, o) ∉ P.1) (hs : c = P.2.length → I 108 (c : Int) = sgi s)
    (h : ∀ I' : KI, MRd (rst P c o s) I' → cfr I I' → Q 0 G I') : kWP xs true (d) 0 0 187 0 [(0, 19, 0, 101), (1, 0, 0, (c : Int)), (2, 0, 0, bi o)] [] G I Q := by
  have hl := hok.len h7 hn
  obtain ⟨p5, p27, pv, ps, pm⟩ := hP
  have hmb : ∀ x, mtn P x ≤ 3 := fun x => by unfold mtn; split <;> split <;> omega
  have hs2 : (rst P c o s).2.length = if c < P.2.length then P.2.length else P.2.length + 1 := by
    rw [rst_sg]; split <;> simp
  have hv1 : (rst P c o s).1.length = P.1.length + 1 := by rw [rst_vis hc]; simp
  -- behind the crossing's own cell
  have fin : ∀ J : KI, cfr I J → J 101 5 = ((rst P c o s).2.length : Int) → J 101 27 = (P.1.length : Int) → (∀ k : Nat, k < P.1.length → J 106 (k : Int) = (pcx P k : Int) ∧ J 107 (k : Int) = bi (pov P k)) → (∀ x : Nat, x < (rst P c o s).2.length → J 108 (x : Int) = sgi (psg (rst P c o s) x)) → (∀ x : Nat, x < (rst P c o s).2.length → x ≠ c → J 119 (x : Int) = (mtn P x : Int)) → J 119 (c : Int) = (mtn P c : Int) →
      ∀ (z : Int), z = (if o then 1 else 2) → ∀ J1 : KI, J1 = kst J 119 (c : Int) (kior (J 119 (c : Int)) z) → (0 ≤ J1 101 27 ∧ J1 101 27 < 14) ∧ ∀ J2 : KI, J2 = kst J1 106 (J1 101 27) (c : Int) → (0 ≤ J2 101 27 ∧ J2 101 27 < 14) ∧ kzr (bi o) (∀ J3 : KI, J3 = kst J2 107 (J2 101 27) (bi o) → ∀ J4 : KI, J4 = kst J3 101 27 (w32 (J3 101 27 + 1)) → Q 0 G J4) := by
    intro J hf j5 j27 jv js jm jc z hz J1 e1
    have a1 : J1 101 27 = (P.1.length : Int) := by rw [e1, kst_n (by omega)]; exact j27
    rw [jc, hz, mtn_or hn] at e1
    refine ⟨by omega, fun J2 e2 => ?_⟩
    have a2 : J2 101 27 = (P.1.length : Int) := by rw [e2, kst_n (by omega)]; exact a1
    rw [a1] at e2
    refine ⟨by omega, kzr_bi (fun J3 e3 J4 e4 => ?_)⟩
    have a3 : J3 101 27 = (P.1.length : Int) := by rw [e3, kst_n (by omega)]; exact a2
    rw [a2] at e3
    rw [a3, w32_inc (by omega)] at e4
    refine h J4 ⟨?_, ?_, fun k hk => ?_, fun x hx => ?_, fun x hx => ?_⟩ (hf.tr (fun a k n1 n2 => ?_))
    · rw [e4, kst_n (by omega), e3, kst_n (by omega), e2, kst_n (by omega), e1, kst_n (by omega)]; exact j5
    · rw [e4, kst_s, hv1]
    · rw [hv1] at hk
      have epc : pcx (rst P c o s) k = if k = P.1.length then c else pcx P k := by
        show pcx ((rst P c o s).1, (rst P c o s).2) k = _
        rw [rst_vis hc]; exact pcx_app P.1 c o _ P.2 k
      have epo : pov (rst P c o s) k = if k = P.1.length then o else pov P k := by
        show pov ((rst P c o s).1, (rst P c o s).2) k = _
        rw [rst_vis hc]; exact pov_app P.1 c o _ P.2 k
      rw [epc, epo]
      by_cases hkl : k = P.1.length
      · rw [if_pos hkl, if_pos hkl, hkl]
        exact ⟨by rw [e4, kst_n (by omega), e3, kst_n (by omega), e2, kst_s], by rw [e4, kst_n (by omega), e3, kst_s]⟩
      · rw [if_neg hkl, if_neg hkl]
        have := jv k (by omega)
        exact ⟨by rw [e4, kst_n (by omega), e3, kst_n (by omega), e2, kst_n (by omega), e1, kst_n (by omega)]; exact this.1, by rw [e4, kst_n (by omega), e3, kst_n (by omega), e2, kst_n (by omega), e1, kst_n (by omega)]; exact this.2⟩
    · rw [e4, kst_n (by omega), e3, kst_n (by omega), e2, kst_n (by omega), e1, kst_n (by omega)]
      exact js x hx
    · rw [mtn_r hc hn, e4, kst_n (by omega), e3, kst_n (by omega), e2, kst_n (by omega), e1]
      by_cases hxc : x = c
      · rw [hxc, kst_s, if_pos rfl]
      · rw [kst_n (by omega), if_neg hxc]
        exact jm x hx hxc
    · rw [e4, kst_n (by omega), e3, kst_n (by omega), e2, kst_n (by omega), e1, kst_n (by omega)]
  refine b_M_comes_0 ?_
  rw [p5]
  refine ⟨fun h1 => ?_, fun h1 => ⟨by omega, fun J0 e0 J1 e1 => ?_⟩⟩
  · have hcn : c < P.2.length := by omega
    rw [if_pos hcn] at hs2
    have f0 := fin I (fun _ _ _ _ => rfl) (by rw [hs2]; exact p5) p27 pv (fun x hx => by rw [show psg (rst P c o s) x = psg P x from by unfold psg; rw [rst_sg, if_pos hcn]]; exact ps x (by omega)) (fun x hx _ => pm x (by omega)) (pm c hcn)
    refine ⟨by omega, fun h2 => ⟨by omega, ?_⟩, fun h2 => ⟨by omega, ?_⟩⟩
    · exact f0 2 (by rw [bi0 h2]; rfl)
    · exact f0 1 (by rw [bi1 h2]; rfl)
  · have hcn : c = P.2.length := by omega
    have hnl : ¬ c < P.2.length := by omega
    rw [if_neg hnl] at hs2
    have hm0 : mtn P c = 0 := by
      have : ∀ b, (c, b) ∉ P.1 := fun b hb => by have := hok.2.2.1 _ hb; simp at this; omega
      unfold mtn
      rw [if_neg (this true), if_neg (this false)]
    rw [show J0 101 5 = (P.2.length : Int) by rw [e0, kst_n (by omega)]; exact p5, w32_inc (by omega)] at e1
    have f0 := fin J1 (fun a k n1 n2 => by rw [e1, kst_n (by omega), e0, kst_n (by omega)]) (by rw [hs2, e1, kst_s]) (by rw [e1, kst_n (by omega), e0, kst_n (by omega)]; exact p27) (fun k hk => by rw [e1, kst_n (by omega), e0, kst_n (by omega), kst_n (by omega), kst_n (by omega)]; exact pv k hk) (fun x hx => ?_) (fun x hx hxc => by rw [e1, kst_n (by omega), e0, kst_n (by omega)]; exact pm x (by omega)) (by rw [e1, kst_n (by omega), e0, ← hcn, kst_s, hm0]; rfl)
    · refine ⟨by omega, fun h2 => ⟨by omega, ?_⟩, fun h2 => ⟨by omega, ?_⟩⟩
      · exact f0 2 (by rw [bi0 h2]; rfl)
      · exact f0 1 (by rw [bi1 h2]; rfl)
    · rw [e1, kst_n (by omega), e0, kst_n (by omega)]
      have ep : psg (rst P c o s) x = if x = P.2.length then s else psg P x := by
        show psg ((rst P c o s).1, (rst P c o s).2) x = _
        rw [rst_sg, if_neg hnl]; exact psg_app _ P.1 P.2 s x
      rw [ep]
      by_cases hx2 : x = P.2.length
      · rw [if_pos hx2, hx2, ← hcn]; exact hs hcn
      · rw [if_neg hx2]; exact ps x (by omega)
/-- all visits are there -/
theorem whl_i {P : Pic} (h : RdQ P) : P.1.length = 2 * P.2.length ↔ ∀ c, c < P.2.length → ∀ b, (c, b) ∈ P.1 := by
  constructor
  · intro hl c hc b
    refine Classical.byContradiction (fun hn => ?_)
    have := len_inj ((c, b) :: P.1) (allV P.2.length) id (List.nodup_cons.mpr ⟨hn, h.2.1⟩) (fun a ha => by
      obtain ⟨a1, a2⟩ := a
      rcases List.mem_cons.mp ha with e | ha
      · exact allV_mem.mpr (by have := congrArg Prod.fst e; simp at this; omega)
      · exact allV_mem.mpr (h.2.2.1 _ ha)) (fun _ _ _ _ e => e)
    rw [allV_len, List.length_cons] at this
    omega
  · intro ha
    rw [← allV_len]
    exact List.Perm.length_eq ((List.perm_ext_iff_of_nodup h.2.1 (allV_nd _)).mpr (fun ⟨c, b⟩ => by rw [allV_mem]; exact ⟨fun hm => h.2.2.1 _ hm, fun hc => ha c hc b⟩))
theorem RdQ.w {P : Pic} (h : RdQ P) (hl : P.1.length = 2 * P.2.length) : PicW P := ⟨h.1, h.2.1, fun c b => ⟨fun hm => h.2.2.1 _ hm, fun hc => (whl_i h).mp hl c hc b⟩, h.2.2.2.2⟩
theorem MRd.hd {P : Pic} {I : KI} (h : MRd P I) (hok : RdQ P) (hl : P.1.length = 2 * P.2.length) : MHd P I := ⟨hok.1, hl, h.1, h.2.2.1, h.2.2.2.1⟩
theorem t_M_areWhole {xs : KS} {d : Nat} {P : Pic} {G : KG} {I : KI} {Q : KQ} (hP : MRd P I) (hok : RdQ P) (h : Q (bi (decide (P.1.length = 2 * P.2.length))) G I) : kWP xs true (d) 0 0 188 0 [(0, 19, 0, 101)] [] G I Q := by
  have h7 := hok.1
  have m3 : ∀ c, mtn P c = 3 ↔ ∀ b, (c, b) ∈ P.1 := fun c => by
    unfold mtn
    by_cases h1 : (c, true) ∈ P.1 <;> by_cases h2 : (c, false) ∈ P.1 <;> simp [h1, h2]
  refine b_M_areWhole_0 ?_
  refine loop_up (n := P.2.length) (W := fun c => (∀ e, e < c → mtn P e = 3) → kWP xs true (d) 0 0 188 2 [(0, 19, 0, 101), (1, 0, 0, (c : Int))] [] G I Q) ?_ ?_ (Nat.zero_le _) (fun e he => absurd he (Nat.not_lt_zero e))
  · intro ha
    rw [decide_eq_true ((whl_i hok).mpr (fun c hc => (m3 c).mp (ha c hc)))] at h
    refine b_M_areWhole_2 ?_
    rw [hP.1]
    exact ⟨fun _ => h, fun hh => by omega⟩
  · intro c hc ih ha
    refine b_M_areWhole_2 ?_
    rw [hP.1, w32_inc (by omega), hP.2.2.2.2 c hc]
    refine ⟨fun hh => by omega, fun _ => ⟨by omega, fun h1 => ih (all_step (p := fun e => mtn P e = 3) ha (by omega)), fun h1 => ?_⟩⟩
    rw [decide_eq_false (fun hh => h1 (by rw [(m3 c).mpr ((whl_i hok).mp hh c hc)]; rfl))] at h
    exact h
