/-! SOME SIGNS make every good picture plain -/
def e7p (a m : Nat) : Bool := (((enP 7 8 0 []).drop a).take m).all (fun q => (enP 7 6 q.1 q.2).all (fun r => okl 7 r.2))
def E7 (a : Nat) : Prop := ∀ q ∈ (enP 7 8 0 []).drop a, ∀ r ∈ enP 7 6 q.1 q.2, okl 7 r.2 = true
theorem E7_s {a m : Nat} (b : Nat) (hb : a + m = b) (h : e7p a m = true) (hr : E7 b) : E7 a := fun q hq r hr2 => by
  subst hb
  have hq2 : q ∈ ((enP 7 8 0 []).drop a).take m ++ ((enP 7 8 0 []).drop a).drop m := by rw [List.take_append_drop]; exact hq
  rcases List.mem_append.mp hq2 with h1 | h1
  · exact List.all_eq_true.mp (List.all_eq_true.mp h q h1) r hr2
  · rw [List.drop_drop] at h1
    exact hr q h1 r hr2
theorem E7_e : E7 208 := fun q hq => by
  have : (enP 7 8 0 []).drop 208 = [] := by decide +kernel
  rw [this] at hq
  exact absurd hq List.not_mem_nil
theorem okl_pl {xs : KS} (hx : XCh xs) {P : Pic} (h : PicOk P) (h0 : P.2.length ≠ 0) (hk : okl P.2.length (P.1.map Prod.fst) = true) : PlOk xs P := by
  have h7 := h.1
  have hn : ¬ decide (P.1.map Prod.fst ∈ badW) = true := fun hh => h.2.2.2.2.2 (of_decide_eq_true hh)
  have h1 : (trs P.2.length).any (fun s => chk P.2.length (kyI (2 * P.2.length) (2 * P.2.length)) (P.1.map Prod.fst) s) = true := by
    rcases Bool.or_eq_true_iff.mp hk with g | g
    · exact g
    · exact absurd g hn
  obtain ⟨s, hs, hc⟩ := List.any_eq_true.mp h1
  have hs2 := (trs_lt P.2.length (by omega) s hs).resolve_left h0
  have hpl := chk_pl hx h.w h0 hs2 hc
  refine ⟨plm P.2 ^^^ s, Nat.xor_lt_two_pow (plm_lt _) hs2, ?_⟩
  rw [← Nat.xor_assoc, Nat.xor_self, Nat.zero_xor]
  exact hpl
theorem pl_0 {xs : KS} (hx : XCh xs) {P : Pic} (h : PicOk P) (h0 : P.2.length = 0) : PlOk xs P := by
  have hl := h.w.len
  have hp := plm_lt P.2
  refine ⟨plm P.2, hp, ?_⟩
  rw [Nat.xor_self, isPl_iff]
  intro k hk
  rw [val_v hx h.1 h.w.rg (Nat.two_pow_pos _)]
  have hr : rings P 0 = 1 := by unfold rings; rw [if_pos (by omega)]
  unfold vsm
  rw [h0]
  show 0 + tmV xs 0 (npop 0) (npop (0 ^^^ 0)) (rings P 0) (k : Int) = _
  rw [hr]
  have e : tmV xs 0 (npop 0) (npop (0 ^^^ 0)) 1 (k : Int) = spQ 1 21 0 1 (k : Int) := by
    have e1 : tmV xs 0 (npop 0) (npop (0 ^^^ 0)) 1 (k : Int) = sprT xs 1 21 0 1 (k : Int) := rfl
    rw [e1]
    exact sprT_Q hx (by omega) _ 1 (by omega)
  rw [e]
  show 0 + (0 + (if (k : Int) = 21 + 0 - 2 * 0 then 1 * ((chs 0 0 : Nat) : Int) else 0)) = _
  by_cases g : k = 21
  · subst g; rfl
  · rw [if_neg (by omega), if_neg g]; rfl
theorem pl_all {xs : KS} (h7 : E7 0) (hx : XCh xs) {P : Pic} (h : PicOk P) : PlOk xs P := by
  by_cases h0 : P.2.length = 0
  · exact pl_0 hx h h0
  · refine okl_pl hx h h0 ?_
    have hl := h.w.len
    have hw := h.2.2.2.1
    have hp := h.pl
    have hm : (P.1.map Prod.fst).length = 2 * P.2.length := by rw [List.length_map]; exact hl
    have hle := h.1
    generalize P.1.map Prod.fst = w at *
    generalize P.2.length = n at *
    by_cases h6 : n < 7
    · obtain ⟨d, i1, -⟩ := en_all hp (2 * n) 0 [] w rfl (by omega) hw
      have := List.all_eq_true.mp ((okl_6 n h6).resolve_left h0) _ i1
      simp only [List.length_nil, Nat.zero_add] at this
      rwa [← hm, List.take_length] at this
    · obtain rfl : n = 7 := by omega
      obtain ⟨d, i1, i2⟩ := en_all hp 8 0 [] w rfl (by omega) hw
      simp only [List.length_nil, Nat.zero_add] at i1
      have ht : (w.take 8).length = 8 := by rw [List.length_take]; omega
      obtain ⟨d2, j1, -⟩ := en_all hp 6 d (w.take 8) (w.drop 8) (List.take_append_drop 8 w) (by rw [List.length_drop]; omega) i2
      rw [ht] at j1
      have := h7 (d, w.take 8) (by rw [List.drop_zero]; exact i1) _ j1
      rwa [show 8 + 6 = w.length by omega, List.take_length] at this
