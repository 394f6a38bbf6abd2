/-! GOOD PICTURES -/
/-- names in the order in which they are first met -/
def nubF : List Nat → List Nat → List Nat
  | D, [] => D
  | D, x :: r => nubF (if x ∈ D then D else D ++ [x]) r
/-- the two visits of a crossing lie at places odd and even -/
def Par (P : Pic) : Prop := ∀ k, k < P.1.length → agn P k % 2 ≠ k % 2
/-- two words of seven crossings that can't be drawn, though like places are odd and even -/
def badW : List (List Nat) := [[0, 1, 2, 0, 3, 2, 4, 3, 5, 4, 6, 5, 1, 6], [0, 1, 2, 3, 1, 4, 3, 5, 4, 6, 5, 0, 6, 2]]
def PicOk (P : Pic) : Prop := P.2.length ≤ 7 ∧ P.1.Nodup ∧ (∀ c b, (c, b) ∈ P.1 ↔ c < P.2.length) ∧ nubF [] (P.1.map Prod.fst) = List.range P.2.length ∧ Par P ∧ P.1.map Prod.fst ∉ badW
/-- all visits of n crossings -/
def allV (n : Nat) : List (Nat × Bool) := (List.range n).flatMap (fun c => [(c, true), (c, false)])
theorem allV_len : ∀ n, (allV n).length = 2 * n
  | 0 => rfl
  | n + 1 => by
    have := allV_len n
    unfold allV at this ⊢
    rw [List.range_succ, List.flatMap_append, List.length_append, this]
    simp; omega
theorem allV_mem {n c : Nat} {b : Bool} : (c, b) ∈ allV n ↔ c < n := by
  unfold allV
  rw [List.mem_flatMap]
  constructor
  · rintro ⟨x, hx, h⟩
    have := List.mem_range.mp hx
    simp at h
    omega
  · intro h
    refine ⟨c, List.mem_range.mpr h, ?_⟩
    cases b <;> simp
theorem allV_nd : ∀ n, (allV n).Nodup
  | 0 => by unfold allV; simp
  | n + 1 => by
    have ih := allV_nd n
    have hm := @allV_mem n
    unfold allV at ih hm ⊢
    rw [List.range_succ, List.flatMap_append, List.nodup_append]
    refine ⟨ih, by simp, fun a ha b hb => ?_⟩
    obtain ⟨c, o⟩ := a
    have h1 := hm.mp ha
    intro e
    rw [← e] at hb
    simp at hb
    omega
theorem PicOk.len {P : Pic} (h : PicOk P) : P.1.length = 2 * P.2.length := by
  rw [← allV_len]
  exact List.Perm.length_eq ((List.perm_ext_iff_of_nodup h.2.1 (allV_nd _)).mpr (fun ⟨c, b⟩ => by rw [h.2.2.1, allV_mem]))
theorem pcx_mem {P : Pic} {k : Nat} (h : k < P.1.length) : (pcx P k, pov P k) ∈ P.1 := by
  unfold pcx pov
  rw [List.getD_eq_getElem?_getD, List.getElem?_eq_getElem h]
  exact List.getElem_mem h
theorem PicOk.lt {P : Pic} (h : PicOk P) {k : Nat} (hk : k < P.1.length) : pcx P k < P.2.length := (h.2.2.1 _ _).mp (pcx_mem hk)
theorem pln_ex {P : Pic} {c : Nat} {b : Bool} (h : (c, b) ∈ P.1) : pln P c b < P.1.length := by
  obtain ⟨k, hk, e⟩ := List.mem_iff_getElem.mp h
  refine fnd_lt hk ?_
  unfold pcx pov
  rw [List.getD_eq_getElem?_getD, List.getElem?_eq_getElem hk, e]
  simp
theorem PicOk.pwh {P : Pic} (h : PicOk P) : pwh P := fun c hc b => pln_ex ((h.2.2.1 c b).mpr hc)
theorem PicOk.g128 {P : Pic} (h : PicOk P) : gbm P < 128 := by
  have h7 := h.1
  have hp : ∀ c, c < P.2.length → 2 ^ c < 2 ^ 7 := fun c hc => Nat.pow_lt_pow_right (by omega) (by omega)
  unfold gbm
  split
  · rename_i h1
    exact hp _ h1
  · split
    · rename_i h1 h2
      refine Nat.or_lt_two_pow (n := 7) (hp _ h2) (hp _ ?_)
      have := fnd_spec (f := fun c => decide (gbf P c < P.2.length)) (n := P.2.length) h2
      exact of_decide_eq_true this
    · omega
/-- what is owed of good pictures and of closed words -/
def Owed : Prop := (∀ P, PicOk P → RgOk P) ∧ ClOk ∧ (∀ P, PicOk P → gbm P ≠ 0 → PicOk (wot P (gbm P)))
/-- a law that was taken is sound -/
def LawS (w : List Int) : Prop := w = [] ∨ (wor (fw8 w) w.length e0).2.2 = false
/-- the state is a sound one -/
def Inv (S : St) : Prop := (∀ P ∈ S.1, PicOk P) ∧ S.1.length ≤ 12 ∧ (∀ b ∈ S.2.1, 0 ≤ b ∧ b < 256) ∧ S.2.1.length ≤ 120 ∧ (∀ b ∈ S.2.2.1, 0 ≤ b ∧ b < 256) ∧ S.2.2.1.length ≤ 120 ∧
  (∀ x ∈ S.2.2.2.1.1, ∃ i c : Nat, x = ((10 * i + c : Nat) : Int) ∧ i < S.1.length ∧ c < (pget S.1 i).2.length) ∧ S.2.2.2.1.2 ≤ S.2.2.2.1.1.length ∧ S.2.2.2.1.1.length ≤ 40 ∧
  (∀ k, k < S.2.2.2.2.1.1.length → 0 ≤ S.2.2.2.2.1.1.getD k 0 ∧ S.2.2.2.2.1.1.getD k 0 < 8) ∧ S.2.2.2.2.1.1.length ≤ 50 ∧
  S.2.2.2.2.2.length = 6 ∧ (∀ i b, S.2.2.2.2.2.getD i none = some (.inl b) → b < S.2.2.2.2.1.1.length) ∧ (∀ i s l, S.2.2.2.2.2.getD i none = some (.inr (s, l)) → s < 5 ∧ l.length ≤ 60) ∧ LawS S.2.2.1
theorem pget_mem {ps : List Pic} {i : Nat} (h : i < ps.length) : pget ps i ∈ ps := by
  unfold pget
  rw [List.getD_eq_getElem?_getD, List.getElem?_eq_getElem h]
  exact List.getElem_mem h
theorem Inv.pic {S : St} (h : Inv S) {i : Nat} (hi : i < S.1.length) : PicOk (pget S.1 i) := h.1 _ (pget_mem hi)
/-- a method of the class does what a call is to do -/
def COk (xs : KS) (j : Nat) (args : KL) (op : Op) : Prop := ∀ (d : Nat) (S : St) (G : KG) (I : KI) (Q : KQ), CRep xs S I → Inv S → (∀ (G' : KG) (I' : KI), CRep xs (op S).2 I' → hif I I' → Q (op S).1 G' I') → kWP xs true (d + 80) 0 0 j 0 args [] G I Q
theorem hif.rf (I : KI) : hif I I := fun _ _ _ => rfl
theorem CTp.fr {T : List Int} {I J : KI} (h : CTp T I) (hf : ∀ a k, (a = 0 ∧ k = 1) ∨ a = 1 → J a k = I a k) : CTp T J := ⟨by rw [hf _ _ (by omega)]; exact h.1, h.2.1, fun k hk => by rw [hf _ _ (by omega)]; exact h.2.2 k hk⟩
theorem CChg.fr {L : List Int} {u : Nat} {I J : KI} (h : CChg L u I) (hf : ∀ a k, a = 35 ∨ a = 36 → J a k = I a k) : CChg L u J := ⟨by rw [hf _ _ (by omega)]; exact h.1, by rw [hf _ _ (by omega)]; exact h.2.1, h.2.2.1, h.2.2.2.1, fun k hk => by rw [hf _ _ (by omega)]; exact h.2.2.2.2 k hk⟩
theorem CLie.fr {K tr : List Int} {I J : KI} (h : CLie K tr I) (hf : ∀ a k, a = 37 ∨ a = 38 ∨ a = 39 → J a k = I a k) : CLie K tr J := ⟨by rw [hf _ _ (by omega)]; exact h.1, h.2.1, fun k hk => by rw [hf _ _ (by omega)]; exact h.2.2.1 k hk, by rw [hf _ _ (by omega)]; exact h.2.2.2.1, fun k hk h2 => by rw [hf _ _ (by omega)]; exact h.2.2.2.2 k hk h2⟩
/-- other cells than those of pictures may be what they were -/
theorem CRep.pics {xs : KS} {S : St} {ps : List Pic} {I J : KI} (h : CRep xs S I) (hf : ∀ a k, ¬ (3 ≤ a ∧ a < 20) → ¬ (41 ≤ a ∧ a < 89) → ¬ (a = 0 ∧ k = 3) → J a k = I a k) (hp : CPs xs ps J) : CRep xs (ps, S.2) J := by
  obtain ⟨_, h2, h3, h4, h5, h6, h7⟩ := h
  exact ⟨hp, h2.fr (fun a k hk => hf _ _ (by omega) (by omega) (by omega)), h3.fr (hf _ _ (by omega) (by omega) (by omega)) (fun k => hf _ _ (by omega) (by omega) (by omega)), h4.fr (fun a k hk => hf _ _ (by omega) (by omega) (by omega)), h5.fr (fun a k hk => hf _ _ (by omega) (by omega) (by omega)), h6.fr (fun a k h8 h9 => hf _ _ (by omega) (by omega) (by omega)), h7.fr (fun k => hf _ _ (by omega) (by omega) (by omega))⟩
theorem CRep.sf {xs : KS} {S : St} {I J : KI} (h : CRep xs S I) (hf : sfr I J) (hp : CPs xs S.1 J) : CRep xs S J := h.pics (fun a k n1 n2 _ => hf a k n1 n2) hp
theorem sfr.hi {I J : KI} (h : sfr I J) : hif I J := fun a k hk => h a k (by omega) (by omega)
