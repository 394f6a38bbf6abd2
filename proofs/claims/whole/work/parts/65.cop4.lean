/-! THE CLASS'S CALLS: lots, laws, shakes -/
theorem wdg_lt {q w k : Nat} (h : 0 < q) : wdg q w k < 2 * q := by
  unfold wdg
  have := Nat.mod_lt (w / q ^ k) h
  omega
theorem ltA_le {xs : KS} {ps : List Pic} {m L : Nat} {what : Int} (h : ∀ w, clO (wdg (m - 1) w) L m = true → cwW xs ps (clP (wdg (m - 1) w) L m) what ≤ 128) : ∀ w, ltA xs ps m L what w ≤ w * 128
  | 0 => by unfold ltA; omega
  | w + 1 => by
    have ih := ltA_le h w
    unfold ltA
    split
    · rename_i hc
      have := h w hc
      omega
    · omega
theorem cwW_le {xs : KS} {ps : List Pic} {P : Pic} {what : Int} (h : P.2.length ≤ 7) : cwW xs ps P what ≤ 128 := by
  have := pw7 h
  unfold cwW
  split
  · omega
  · have := cwA_le (xs := xs) (P := P) (t := wnt xs ps what) (2 ^ P.2.length)
    omega
theorem c_lots {xs : KS} {ml what : Int} (hml : ml < 2147483648) (hx : (xs 0).1 = 64) (hO : Owed) : COk xs 104 [(0, 18, 0, 0), (1, 0, 0, ml), (2, 0, 0, what)] (opLots xs ml what) := by
  intro d S G I Q hS hI h
  have no : ∀ r, opLots xs ml what S = (r, S) → Q r G I := fun r e => by rw [e] at h; exact h G I hS (hif.rf I)
  have bad : ¬ (0 ≤ ml ∧ -2 ≤ what ∧ what < S.1.length ∧ 2 ≤ ml / 10 ∧ ml / 10 ≤ 4 ∧ 1 ≤ ml % 10 ∧ ml % 10 ≤ (if ml / 10 = 4 then 5 else 6)) → Q (-1) G I := fun hn => no _ (by unfold opLots; rw [if_neg hn])
  refine b_C_lots_0 ⟨fun h1 => bad (by omega), fun h1 => ⟨fun h2 => bad (by omega), fun h2 => ?_⟩⟩
  rw [hS.1.1, (k10 h1 hml).1, (k10 h1 hml).2]
  have go : 2 ≤ ml / 10 → ml / 10 ≤ 4 → 1 ≤ ml % 10 → ml % 10 ≤ (if ml / 10 = 4 then 5 else 6) → what < S.1.length → kWP xs true (d + 79) 0 0 138 0 [(0, 18, 0, 0), (1, 0, 0, ml % 10)] [] G I (fun r1 G1 I1 => kWP xs true (d + 80) 0 0 104 81 [(0, 18, 0, 0), (2, 0, 0, what), (3, 0, 0, ml / 10), (4, 0, 0, ml % 10), (5, 0, 0, 0), (6, 0, 0, r1), (7, 0, 0, 0)] [] G1 I1 Q) := by
    intro g1 g2 g3 g4 g5
    have h := h
    unfold opLots at h
    rw [if_pos ⟨h1, h2, g5, g1, g2, g3, g4⟩] at h
    obtain ⟨m, hm⟩ : ∃ m : Nat, m = (ml / 10).toNat := ⟨_, rfl⟩
    obtain ⟨L, hL⟩ : ∃ L : Nat, L = (ml % 10).toNat := ⟨_, rfl⟩
    rw [← hm, ← hL] at h
    have hL6 : L ≤ 6 := by split at g4 <;> omega
    have hmL : m = 4 → L ≤ 5 := by intro e; rw [if_pos (by omega)] at g4; omega
    rw [show ml % 10 = (L : Int) by omega, show ml / 10 = (m : Int) by omega]
    have hN : (m - 1) ^ L ≤ 243 := by
      rcases (show m - 1 = 1 ∨ m - 1 = 2 ∨ m - 1 = 3 by omega) with e | e | e
      · rw [e, Nat.one_pow]; omega
      · rw [e]; have := Nat.pow_le_pow_right (n := 2) (by omega) hL6; omega
      · rw [e]; have := Nat.pow_le_pow_right (n := 3) (by omega) (hmL (by omega)); omega
    have hq0 : 0 < m - 1 := by omega
    have hNp : 0 < (m - 1) ^ L := Nat.pow_pos hq0
    have hl8 : ∀ w k, k < L → wdg (m - 1) w k < 2 * m - 2 := fun w k _ => by have := wdg_lt (w := w) (k := k) hq0; omega
    have hcl := fun w => hO.2.1 (wdg (m - 1) w) L m (by omega) (by omega) (by omega) (hl8 w)
    have hbd : ∀ w, (clP (wdg (m - 1) w) L m).2.length ≤ 7 → cwW xs S.1 (clP (wdg (m - 1) w) L m) what ≤ 128 := fun w h => cwW_le h
    refine t_C_firstWord (fun J0 hw0 hf0 => ?_)
    rw [decide_eq_true (by omega)]
    have fin : ∀ (J : KI) (c : Nat) (more i : Int), CPs xs S.1 J → sfr I J → c = ltA xs S.1 m L what ((m - 1) ^ L) → (more = 0 ∨ 1000 ≤ i) → kWP xs true (d + 80) 0 0 104 81 [(0, 18, 0, 0), (2, 0, 0, what), (3, 0, 0, (m : Int)), (4, 0, 0, (L : Int)), (5, 0, 0, (c : Int)), (6, 0, 0, more), (7, 0, 0, i)] [] G J Q := fun J c more i hp hf hc hm => by
      have h := h G J (hS.sf hf hp) hf.hi
      simp only at h
      rw [← hc] at h
      exact b_C_lots_81 ⟨fun _ => h, fun _ => ⟨fun _ => h, fun hne => by omega⟩⟩
    suffices key : ∀ (u w : Nat) (J : KI), w + u = (m - 1) ^ L → 0 < u → CPs xs S.1 J → sfr I J → (∀ k : Nat, k < 7 → J 17 (k : Int) = if k < L then (wdg (m - 1) w k : Int) else 0) → (ltA xs S.1 m L what w ≤ w * 128) → kWP xs true (d + 80) 0 0 104 81 [(0, 18, 0, 0), (2, 0, 0, what), (3, 0, 0, (m : Int)), (4, 0, 0, (L : Int)), (5, 0, 0, (ltA xs S.1 m L what w : Int)), (6, 0, 0, bi true), (7, 0, 0, (w : Int))] [] G J Q from
      key ((m - 1) ^ L) 0 J0 (by omega) hNp (hS.1.kfr hf0 (by omega) (by omega)) (hf0.sf (by omega) (by omega)) (fun k hk => by
        rw [hw0 k hk]
        have : wdg (m - 1) 0 k = 0 := by unfold wdg; rw [Nat.zero_div, Nat.zero_mod]
        rw [this]; split <;> rfl) (by unfold ltA; omega)
    intro u
    induction u with
    | zero => intro w J _ h0; omega
    | succ u ih =>
      intro w J hwu _ hp hf hw hA
      have hwL : ∀ k, k < L → J 17 (k : Int) = (wdg (m - 1) w k : Int) ∧ wdg (m - 1) w k < 2 * m - 2 := fun k hk => ⟨by rw [hw k (by omega), if_pos hk], hl8 w k hk⟩
      refine b_C_lots_81 ⟨fun hh => by omega, fun _ => ⟨fun hh => absurd hh (by decide), fun _ => t_Picture_beClosedP (p := 3) (ws := wdg (m - 1) w) (by omega) hwL (by omega) (by omega) (by omega) (hcl w).1 (fun J1 hP1 hf1 _ => ?_)⟩⟩
      have hp1 := hp.kfr hf1 (by omega) (by omega)
      have hfr1 := hf.tr (hf1.sf (by omega) (by omega))
      -- the next word, or none
      have nx : ∀ (c : Nat) (J : KI), c = ltA xs S.1 m L what (w + 1) → c ≤ (w + 1) * 128 → CPs xs S.1 J → sfr I J → (∀ k : Nat, k < 7 → J 17 (k : Int) = if k < L then (wdg (m - 1) w k : Int) else 0) → kWP xs true (d + 79) 0 0 139 0 [(0, 18, 0, 0), (1, 0, 0, (L : Int)), (2, 0, 0, (m : Int))] [] G J (fun r2 G2 I2 => kWP xs true (d + 80) 0 0 104 81 [(0, 18, 0, 0), (2, 0, 0, what), (3, 0, 0, (m : Int)), (4, 0, 0, (L : Int)), (5, 0, 0, (c : Int)), (6, 0, 0, r2), (7, 0, 0, ((w + 1 : Nat) : Int))] [] G2 I2 Q) := by
        intro c J hc hc2 hp hf hw
        refine t_C_nextWord (w := w) (by omega) (by omega) hL6 hw (fun J2 hd hw2 hf2 => ?_) (fun J2 hd hf2 => ?_)
        · rcases Nat.eq_zero_or_pos u with hu | hu
          · exact absurd ⟨1, by omega⟩ hd
          · have := ih (w + 1) J2 (by omega) hu (hp.kfr hf2 (by omega) (by omega)) (hf.tr (hf2.sf (by omega) (by omega))) hw2 (by rw [← hc]; exact hc2)
            rw [← hc] at this
            exact this
        · refine fin J2 c 0 _ (hp.kfr hf2 (by omega) (by omega)) (hf.tr (hf2.sf (by omega) (by omega))) ?_ (Or.inl rfl)
          have := Nat.le_of_dvd (by omega) hd
          rw [hc]; congr 1; omega
      rw [w32_inc (by omega)]
      cases hc : clO (wdg (m - 1) w) L m with
      | false =>
        refine ⟨fun _ => nx _ J1 ?_ (by omega) hp1 hfr1 (fun k hk => by rw [hf1 _ _ (by omega)]; exact hw k hk), fun hh => absurd rfl hh⟩
        show _ = ltA xs S.1 m L what w + _
        rw [if_neg (by rw [hc]; simp), Nat.add_zero]
      | true =>
        refine ⟨fun hh => absurd hh (by decide), fun _ => t_C_countWays hx hP1 ((hcl w).2 hc) hp1 (fun i hi => hI.rg hO i hi) ⟨h2, g5⟩ (fun J3 hp3 hf3 => ?_)⟩
        have hb := hbd w hP1.1
        rw [w32_id (x := (ltA xs S.1 m L what w : Int) + _) (by omega) (by omega), show (ltA xs S.1 m L what w : Int) + (cwW xs S.1 (clP (wdg (m - 1) w) L m) what : Int) = ((ltA xs S.1 m L what w + cwW xs S.1 (clP (wdg (m - 1) w) L m) what : Nat) : Int) by omega]
        refine nx _ J3 ?_ (by omega) hp3 (hfr1.tr hf3.sf) (fun k hk => by rw [hf3 _ _ (by omega) (by omega), hf1 _ _ (by omega)]; exact hw k hk)
        show _ = ltA xs S.1 m L what w + _
        rw [if_pos hc]
  refine ⟨fun g5 => ⟨by omega, by omega, fun g1 => bad (by omega), fun g1 => ⟨fun g2 => bad (by omega), fun g2 => ⟨fun g3 => ⟨fun n4 => ⟨fun g4 => go g1 g2 g3 (by rw [if_neg n4]; exact g4) g5, fun g4 => bad ?_⟩, fun e4 => ⟨fun g4 => go g1 g2 g3 (by rw [if_pos e4]; exact g4) g5, fun g4 => bad ?_⟩⟩, fun g3 => bad (by omega)⟩⟩⟩, fun g5 => bad (by omega)⟩
  · intro hh
    have := hh.2.2.2.2.2.2
    rw [if_neg n4] at this; omega
  · intro hh
    have := hh.2.2.2.2.2.2
    rw [if_pos e4] at this; omega
/-- where a text fails does not hang on the names -/
def EqL (S T : LSg) : Prop := ∀ pl w, (S pl w).2 = (T pl w).2
theorem lml_e {f : Nat → Int} {n : Nat} {S T : LSg} (h : EqL S T) : ∀ (k : Nat) (r r' : LR), r.2 = r'.2 → (lml f n S k r).2 = (lml f n T k r').2
  | 0, r, r', e => e
  | k + 1, r, r', e => by
    rw [lml, lml, ← e]
    split
    · exact e
    · split
      · exact lml_e h k _ _ (h _ _)
      · split
        · exact lml_e h k _ _ (h _ _)
        · split
          · exact lml_e h k _ _ (h _ _)
          · exact e
theorem lal_e {f : Nat → Int} {n : Nat} {S T : LSg} (h : EqL S T) : ∀ (k : Nat) (r r' : LR), r.2 = r'.2 → (lal f n S k r).2 = (lal f n T k r').2
  | 0, r, r', e => e
  | k + 1, r, r', e => by
    rw [lal, lal, ← e]
    split
    · exact e
    · split
      · exact lal_e h k _ _ (h _ _)
      · split
        · exact lal_e h k _ _ (h _ _)
        · exact e
theorem lbl_e {f : Nat → Int} {n : Nat} {c : Int} {op : Int → Int → Int} {S T : LSg} (h : EqL S T) : ∀ (k : Nat) (r r' : LR), r.2 = r'.2 → (lbl f n c op S k r).2 = (lbl f n c op T k r').2
  | 0, r, r', e => e
  | k + 1, r, r', e => by
    rw [lbl, lbl, ← e]
    split
    · exact e
    · split
      · exact lbl_e h k _ _ (h _ _)
      · exact e
theorem lcmp_e {f : Nat → Int} {n : Nat} {S T : LSg} (h : EqL S T) : EqL (lcmp f n S) (lcmp f n T) := fun pl w => by
  unfold lcmp
  simp only
  rw [← h pl w]
  split
  · rfl
  · split
    · exact h _ _
    · split
      · exact h _ _
      · split
        · exact h _ _
        · exact h pl w
theorem lexp_e {f : Nat → Int} {n : Nat} {S T : LSg} (h : EqL S T) : EqL (lexp f n S) (lexp f n T) := by
  have h1 : EqL (lmul f n S) (lmul f n T) := fun pl w => lml_e h 120 _ _ (h pl w)
  have h2 : EqL (ladd f n (lmul f n S)) (ladd f n (lmul f n T)) := fun pl w => lal_e h1 120 _ _ (h1 pl w)
  have h3 := lcmp_e (f := f) (n := n) h2
  have h4 : EqL (lbth f n (lcmp f n (ladd f n (lmul f n S)))) (lbth f n (lcmp f n (ladd f n (lmul f n T)))) := fun pl w => lbl_e h3 120 _ _ (h3 pl w)
  exact fun pl w => lbl_e h4 120 _ _ (h4 pl w)
theorem lnd_e {f : Nat → Int} {n : Nat} {e e' : Int → Int} : EqL (lnd f n e) (lnd f n e') := fun pl w => by
  unfold lnd
  split
  · rfl
  · split
    · rfl
    · split
      · rfl
      · split
        · rfl
        · split <;> rfl
theorem lsU_e {f : Nat → Int} {n : Nat} {e e' : Int → Int} : ∀ u, EqL (lsU f n e u) (lsU f n e' u)
  | 0 => fun pl w => by
    unfold lsU lsn
    split
    · rfl
    · split
      · rfl
      · exact lnd_e pl w
  | u + 1 => fun pl w => by
    have ih := lsU_e (f := f) (n := n) (e := e) (e' := e') u
    unfold lsU lsn
    split
    · rfl
    · split
      · unfold lopn
        split
        · exact ih _ _
        · split
          · exact ih _ _
          · have he := lexp_e ih (f := f) (n := n) (pl + 1) w
            simp only
            rw [← he]
            split
            · exact he
            · split <;> rfl
      · exact lnd_e pl w
theorem lE_e {f : Nat → Int} {n : Nat} {e e' : Int → Int} : EqL (lE f n e) (lE f n e') := lexp_e (lsU_e 6)
theorem wend_e {f : Nat → Int} {n : Nat} {R R' : Int → Bool → Nat → LR} (h : ∀ a c a' c' pl, (R a c pl).2 = (R' a' c' pl).2) {a a' : Int} {c c' : Bool} {q : Nat × Bool} : (wend f n R a c q).2 = (wend f n R' a' c' q).2 := by
  unfold wend
  split
  · rfl
  · split
    · exact h _ _ _ _ _
    · rfl
theorem wln_e {f : Nat → Int} {n : Nat} {R R' : Int → Bool → Nat → LR} (h : ∀ a c a' c' pl, (R a c pl).2 = (R' a' c' pl).2) {a a' : Int} {c c' k k' : Bool} {v v' : Int} {q q' : LR} (hq : q.2 = q'.2) : (wln f n R a c k v q).2 = (wln f n R' a' c' k' v' q').2 := by
  unfold wln
  rw [← hq]
  split
  · split
    · exact wend_e h
    · split <;> exact wend_e h
  · split
    · split
      · exact wend_e h
      · split <;> exact wend_e h
    · split
      · exact wend_e h
      · split <;> exact wend_e h
theorem wthL_e {f : Nat → Int} {n : Nat} {E E' : LSg} (h : EqL E E') : ∀ (k : Nat) (a : Int) (c : Bool) (a' : Int) (c' : Bool) (pl : Nat), (wthL f n E k a c pl).2 = (wthL f n E' k a' c' pl).2
  | 0, a, c, a', c', pl => rfl
  | k + 1, a, c, a', c', pl => by
    have ih := fun a c a' c' pl => wthL_e (f := f) (n := n) h k a c a' c' pl
    unfold wthL
    simp only
    rw [← h pl false]
    split
    · exact wln_e ih (h pl false)
    · split
      · exact wln_e ih (h _ _)
      · exact wln_e ih (h pl false)
theorem wor_e {f : Nat → Int} {n : Nat} (e e' : Int → Int) : (wor f n e).2 = (wor f n e').2 := wthL_e lE_e 120 _ _ _ _ _
