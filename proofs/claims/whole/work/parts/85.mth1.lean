/-! CHANGES keep good pictures good; rings hang on the cord's way alone -/
theorem pcx_lt_len {P R : Pic} (h : ∀ k, pcx R k = pcx P k) : pcx R = pcx P := funext h
theorem agn_cg {P R : Pic} (hl : R.1.length = P.1.length) (hp : pcx R = pcx P) (k : Nat) : agn R k = agn P k := by unfold agn; rw [hl, hp]
theorem rgs_cg {P R : Pic} (hl : R.1.length = P.1.length) (hp : pcx R = pcx P) (g : Nat) (S : Nat × Bool) : rgs R g S = rgs P g S := by
  unfold rgs
  simp only [hl, hp, agn_cg hl hp]
theorem rgw_cg {P R : Pic} (hl : R.1.length = P.1.length) (hp : pcx R = pcx P) (g a : Nat) : ∀ k, rgw R g a k = rgw P g a k
  | 0 => rfl
  | k + 1 => by
    show rgs R g (rgw R g a k) = rgs P g (rgw P g a k)
    rw [rgw_cg hl hp g a k, rgs_cg hl hp]
theorem rgm_cg {P R : Pic} (hl : R.1.length = P.1.length) (hp : pcx R = pcx P) (g a : Nat) : ∀ k, rgm R g a k = rgm P g a k
  | 0 => rfl
  | k + 1 => by
    show rgm R g a k ||| 2 ^ (rgw R g a k).1 = rgm P g a k ||| 2 ^ (rgw P g a k).1
    rw [rgm_cg hl hp g a k, rgw_cg hl hp]
theorem rgg_cg {P R : Pic} (hl : R.1.length = P.1.length) (hp : pcx R = pcx P) (g a : Nat) : rgg R g a = rgg P g a := by
  have : rgn R g a = rgn P g a := by
    unfold rgn
    rw [hl]
    congr 2
    congr 1
    funext k
    rw [rgw_cg hl hp]
  unfold rgg
  rw [this, rgm_cg hl hp]
theorem rgc_cg {P R : Pic} (hl : R.1.length = P.1.length) (hp : pcx R = pcx P) (g : Nat) : ∀ j, rgc R g j = rgc P g j
  | 0 => rfl
  | j + 1 => by
    unfold rgc
    rw [rgc_cg hl hp g j, rgg_cg hl hp]
theorem rings_cg {P R : Pic} (hl : R.1.length = P.1.length) (hp : pcx R = pcx P) (g : Nat) : rings R g = rings P g := by
  unfold rings
  rw [hl, rgc_cg hl hp]
theorem tly_cg {P R : Pic} (hr : ∀ g, rings R g = rings P g) (pl a : Nat) : ∀ j, tly R pl a j = tly P pl a j
  | 0 => rfl
  | j + 1 => by
    unfold tly
    rw [tly_cg hr pl a j, hr]
theorem smA_cg {xs : KS} {P R : Pic} (hn : R.2.length = P.2.length) (hr : ∀ g, rings R g = rings P g) (pl : Nat) : ∀ a k, smA xs R pl a k = smA xs P pl a k
  | 0, k => rfl
  | a + 1, k => by
    unfold smA
    rw [smA_cg hn hr pl a k, hn, tly_cg hr]
theorem val_cg {xs : KS} {P R : Pic} (hn : R.2.length = P.2.length) (hl : R.1.length = P.1.length) (hp : pcx R = pcx P) (pl : Nat) : val xs R pl = val xs P pl := by
  funext k
  unfold val
  rw [smA_cg hn (rings_cg hl hp)]
theorem chg_l1 (P : Pic) (c : Nat) : (chg P c).1.length = P.1.length := by unfold chg; simp
theorem chg_l2 (P : Pic) (c : Nat) : (chg P c).2.length = P.2.length := by unfold chg; simp
theorem chg_nm (P : Pic) (c : Nat) : (chg P c).1.map Prod.fst = P.1.map Prod.fst := by
  unfold chg
  rw [List.map_map]
  rfl
theorem nodup_map {α β : Type} {f : α → β} {l : List α} (h : l.Nodup) (hf : ∀ a ∈ l, ∀ b ∈ l, f a = f b → a = b) : (l.map f).Nodup := by
  rw [List.Nodup, List.pairwise_map]
  exact List.Pairwise.imp_of_mem (fun ha hb hab e => hab (hf _ ha _ hb e)) h
/-- the same, by a name that no theorem hides -/
def chgP (P : Pic) (c : Nat) : Pic := chg P c
theorem PicOk.chg {P : Pic} (h : PicOk P) (c : Nat) : PicOk (chg P c) := by
  obtain ⟨h1, h2, h3, h4, h5, h6⟩ := h
  have hpc : pcx (chgP P c) = pcx P := funext (pcx_chg P c)
  refine ⟨by rw [chg_l2]; exact h1, ?_, fun e b => ?_, by rw [chg_nm, chg_l2]; exact h4, fun k hk => ?_, by rw [chg_nm]; exact h6⟩
  · refine nodup_map h2 (fun a _ b _ e => ?_)
    obtain ⟨a1, a2⟩ := a
    obtain ⟨b1, b2⟩ := b
    simp only [Prod.mk.injEq] at e ⊢
    obtain ⟨e1, e2⟩ := e
    subst e1
    refine ⟨rfl, ?_⟩
    cases a2 <;> cases b2 <;> cases hd : decide (a1 = c) <;> rw [hd] at e2 <;> simp at e2 ⊢
  · rw [chg_l2, ← h3 e (b != decide (e = c))]
    show (e, b) ∈ List.map _ _ ↔ _
    rw [List.mem_map]
    constructor
    · rintro ⟨⟨a1, a2⟩, ha, e2⟩
      simp only [Prod.mk.injEq] at e2
      obtain ⟨x, y⟩ := e2
      subst x
      rw [← y]
      have : ((a2 != decide (a1 = c)) != decide (a1 = c)) = a2 := by cases a2 <;> cases decide (a1 = c) <;> rfl
      rw [this]; exact ha
    · intro ha
      refine ⟨(e, b != decide (e = c)), ha, ?_⟩
      have : ((b != decide (e = c)) != decide (e = c)) = b := by cases b <;> cases decide (e = c) <;> rfl
      simp only [this]
  · rw [chg_l1] at hk
    rw [agn_cg (chg_l1 P c) hpc]
    exact h5 k hk
/-- changed at all crossings of a set below one -/
def chS (P : Pic) (s : Nat) : Nat → Pic
  | 0 => P
  | c + 1 => if s.testBit c then chg (chS P s c) c else chS P s c
theorem chS_ok {P : Pic} (h : PicOk P) (s : Nat) : ∀ c, PicOk (chS P s c)
  | 0 => h
  | c + 1 => by
    unfold chS
    split
    · exact (chS_ok h s c).chg c
    · exact chS_ok h s c
theorem chS_l1 (P : Pic) (s : Nat) : ∀ c, (chS P s c).1.length = P.1.length
  | 0 => rfl
  | c + 1 => by
    unfold chS
    split
    · rw [chg_l1, chS_l1 P s c]
    · exact chS_l1 P s c
theorem chS_l2 (P : Pic) (s : Nat) : ∀ c, (chS P s c).2.length = P.2.length
  | 0 => rfl
  | c + 1 => by
    unfold chS
    split
    · rw [chg_l2, chS_l2 P s c]
    · exact chS_l2 P s c
theorem chS_pc (P : Pic) (s : Nat) : ∀ c k, pcx (chS P s c) k = pcx P k
  | 0, k => rfl
  | c + 1, k => by
    unfold chS
    split
    · rw [pcx_chg, chS_pc P s c k]
    · exact chS_pc P s c k
theorem chS_sg (P : Pic) (s : Nat) : ∀ c, c ≤ P.2.length → ∀ e, psg (chS P s c) e = (psg P e != (decide (e < c) && s.testBit e))
  | 0, _, e => by unfold chS; simp
  | c + 1, hc, e => by
    have ih := chS_sg P s c (by omega) e
    unfold chS
    split
    · rename_i hb
      rw [psg_chg _ _ _ (by rw [chS_l2]; omega), ih]
      by_cases hec : e = c
      · subst hec
        simp [hb]
      · have : decide (e < c + 1) = decide (e < c) := by
          by_cases hl : e < c
          · rw [decide_eq_true hl, decide_eq_true (by omega)]
          · rw [decide_eq_false hl, decide_eq_false (by omega)]
        rw [this]
        simp [hec]
    · rename_i hb
      rw [ih]
      by_cases hec : e = c
      · subst hec
        simp [hb]
      · have : decide (e < c + 1) = decide (e < c) := by
          by_cases hl : e < c
          · rw [decide_eq_true hl, decide_eq_true (by omega)]
          · rw [decide_eq_false hl, decide_eq_false (by omega)]
        rw [this]
theorem chS_pl {P : Pic} {s : Nat} (hs : s < 2 ^ P.2.length) : plm (chS P s P.2.length).2 = plm P.2 ^^^ s := by
  apply Nat.eq_of_testBit_eq
  intro c
  rw [plm_bit, Nat.testBit_xor, plm_bit]
  show psg (chS P s P.2.length) c = (psg P c ^^ s.testBit c)
  rw [chS_sg P s _ (Nat.le_refl _)]
  by_cases hc : c < P.2.length
  · rw [decide_eq_true hc, Bool.true_and]
  · rw [decide_eq_false hc, Nat.testBit_lt_two_pow (Nat.lt_of_lt_of_le hs (Nat.pow_le_pow_right (by omega) (by omega)))]
    cases psg P c <;> rfl
theorem chS_pv {xs : KS} {P : Pic} {s : Nat} (hs : s < 2 ^ P.2.length) : pv xs (chS P s P.2.length) = val xs P (plm P.2 ^^^ s) := by
  unfold pv
  rw [chS_pl hs, val_cg (chS_l2 P s _) (chS_l1 P s _) (funext (chS_pc P s _))]
