/-! THE RULES THAT WRITE AND MAKE CELLS -/
theorem kfs_set {X : KX} {G G' : KG} {I I' : KI} {a : Int} {ci n k : Nat} {v : Value} (hv : kfv X G' I' a ci k = v) (ho : ∀ j, j < n → j ≠ k → kfv X G' I' a ci j = kfv X G I a ci j) : ((List.range n).map (fun k => kfv X G I a ci k)).set k v = (List.range n).map (fun k => kfv X G' I' a ci k) := by
  apply List.ext_getElem?
  intro j
  by_cases hj : j < n
  · by_cases hk : j = k
    · subst hk
      rw [List.getElem?_set_self (by simpa using hj), kfs_at hj, hv]
    · rw [List.getElem?_set_ne (Ne.symm hk), kfs_at hj, kfs_at hj, ho j hj hk]
  · rw [List.getElem?_eq_none (by simpa using hj), List.getElem?_eq_none (by simpa using hj)]
def kGr (G : KG) (a k v : Int) : KG := (G.1, G.2.1, kst G.2.2 a k v)
theorem kval.r {G : KG} {a k v : Int} {w : KV} (h : kval G w) : kval (kGr G a k v) w := h
theorem kExt.r (G : KG) (a k v : Int) : kExt G (kGr G a k v) := ⟨Nat.le_refl _, fun _ _ _ => rfl⟩
theorem kcell_rst {X : KX} {G : KG} {I : KI} {b q : Nat} {k v : Int} (h : b ≠ q) : kcell X (kGr G q k v) I b = kcell X G I b := by
  have e : ∀ j : Int, kst G.2.2 q k v b j = G.2.2 b j := fun j => by unfold kst; rw [if_neg (by omega)]
  unfold kcell kfv kGr
  simp only [e]
theorem kMem.r {G : KG} {I : KI} {q k : Nat} {v : Int} (h : kMem G I) (hg : kgood G (kek (G.2.1 q).1 k) (I q k) v) : kMem (kGr G q k v) I := by
  intro a ha j hj
  by_cases hq : a = q ∧ j = k
  · obtain ⟨rfl, rfl⟩ := hq
    have e : (kGr G a j v).2.2 a j = v := by unfold kGr kst; simp
    rw [e]
    exact hg
  · have e : (kGr G q k v).2.2 a j = G.2.2 a j := by unfold kGr kst; simp only; rw [if_neg (by omega)]
    rw [e]
    exact h a ha j hj
theorem kSim.r {X : KX} {lay : Bool} {G : KG} {I : KI} {H H1 : Heap} {q k : Nat} {v : Int} {e : va_E} (h : kSim X lay G I H) (hP : va_P X.2.1 kcl ((kws X G I).set q (X.1 + q, e)) H1) (he : kcell X (kGr G q k v) I q = e) (hg : kgood G (kek (G.2.1 q).1 k) (I q k) v) (hR : lay = true → kRC (kGr G q k v)) : kSim X lay (kGr G q k v) I H1 := by
  rw [kws_set (G := G) (I := I) (G' := kGr G q k v) (I' := I) rfl (fun b _ hb => kcell_rst hb) he] at hP
  exact ⟨hP, h.2.1, h.2.2.1.r hg, hR⟩
theorem kr_puti {xs : KS} {lay : Bool} {d kc ks j pc : Nat} {L : KL} {st : List KV} {G : KG} {I : KI} {Q : KQ} {ci k idx n : Nat} {q : vw_C} {a : Int} {n3 : Nat} {x : Int} (hd : decode (kMb j) pc = .ok (.putfield idx, 3)) (hq : kcl[ci]? = some q) (hk : k < q.2.2) (hw : Cond.fieldLink (kMy j).cls idx (q.2.1 k).1 (q.2.1 k).2.1 (q.2.1 k).2.2.1 ∈ kWords) (hf : (q.2.1 k).2.2.2 = false) (hty : kTy ci k = .int) (h : kWP xs lay d kc ks j (pc + 3) L st G (kst I a k x) Q) : kWP xs lay d kc ks j pc L ((0, n3, x) :: (10 + ci, n, a) :: st) G I Q := by
  intro X p l e R s m args below meth c H locs cells slots ls G0 F hc hs hz he hM hS hl hL hv
  obtain ⟨fx, fb, fml, fown, fret, flk, fini, fws, ffr, flo, ⟨fK, fN, fZ, fT⟩, fXs, fbs⟩ := id F
  have v2 := hv _ (List.mem_cons_of_mem _ List.mem_cons_self)
  rw [show 10 + ci = (6 + ci) + 4 by omega] at v2
  obtain ⟨b, rfl, hq1, hq2, hq3⟩ := kvr v2
  obtain ⟨v0, hv⟩ := fmc hv
  obtain ⟨v3, hv⟩ := fmc hv
  have hq2 : (G.2.1 b).1 = 10 + ci := by omega
  have hn : (G.2.1 b).2 = q.2.2 := by rw [(hM.2.1 b hq1).2.2.2 (by omega), hq2, show 10 + ci - 10 = ci by omega]; exact kNfq hq
  have hkn : k < (G.2.1 b).2 := by omega
  have hkt : kFt ci k = 0 := by unfold kFt; rw [hty]; rfl
  rw [show ((0, n3, x) :: (10 + ci, n, (b : Int)) :: st).map (kcv X) = .int (Int32.ofInt x) :: .ref (X.1 + b) :: st.map (kcv X) by rw [show 10 + ci = (6 + ci) + 4 by omega]; rfl]
  refine va_put (ty := .int) fx fb fws (kIn ci q hq) (kTy ci) (kTyOk ci q hq) (kNm ci q hq) fown fK hM.1 (kws_D X G I) hS b (a := X.1 + b) ((kws_at X G I hq1).trans (by rw [kcell_o hq2])) (by rw [hq]) k hk (fws _ hw) (fun _ z => z) hf ((kTyOk ci q hq k hk).trans (by rw [hty])) rfl rfl (by simpa using hkn) hd (fun H1 locs1 hP1 hD1 hS1 => ?_)
  have hM1 : kSim X lay G (kst I b k x) H1 := by
    refine hM.st (k := k) (v := x) hP1 ?_ ?_
    · rw [kcell_o hq2]
      rw [kfs_set (G' := G) (I' := kst I b k x)]
      · unfold kfv kst; rw [if_pos (by omega), if_pos ⟨rfl, rfl⟩]
      · intro j hj hjk
        have e : kst I b k x b j = I b j := by unfold kst; rw [if_neg (by omega)]
        unfold kfv
        rw [e]
    · rw [hq2]; unfold kek; rw [if_pos (by omega), show 10 + ci - 10 = ci by omega, hkt]; exact v0
  exact h X p l e R s m args below meth c H1 locs1 cells slots ls G0 F hc hs hz he hM1 hS1 hl hL hv
theorem kr_putz {xs : KS} {lay : Bool} {d kc ks j pc : Nat} {L : KL} {st : List KV} {G : KG} {I : KI} {Q : KQ} {ci k idx n : Nat} {q : vw_C} {a : Int} {n3 : Nat} {x : Int} (hd : decode (kMb j) pc = .ok (.putfield idx, 3)) (hq : kcl[ci]? = some q) (hk : k < q.2.2) (hw : Cond.fieldLink (kMy j).cls idx (q.2.1 k).1 (q.2.1 k).2.1 (q.2.1 k).2.2.1 ∈ kWords) (hf : (q.2.1 k).2.2.2 = false) (hty : kTy ci k = .boolean) (hx : x = 0 ∨ x = 1) (h : kWP xs lay d kc ks j (pc + 3) L st G (kst I a k x) Q) : kWP xs lay d kc ks j pc L ((0, n3, x) :: (10 + ci, n, a) :: st) G I Q := by
  intro X p l e R s m args below meth c H locs cells slots ls G0 F hc hs hz he hM hS hl hL hv
  obtain ⟨fx, fb, fml, fown, fret, flk, fini, fws, ffr, flo, ⟨fK, fN, fZ, fT⟩, fXs, fbs⟩ := id F
  have v2 := hv _ (List.mem_cons_of_mem _ List.mem_cons_self)
  rw [show 10 + ci = (6 + ci) + 4 by omega] at v2
  obtain ⟨b, rfl, hq1, hq2, hq3⟩ := kvr v2
  obtain ⟨v0, hv⟩ := fmc hv
  obtain ⟨v3, hv⟩ := fmc hv
  have hq2 : (G.2.1 b).1 = 10 + ci := by omega
  have hn : (G.2.1 b).2 = q.2.2 := by rw [(hM.2.1 b hq1).2.2.2 (by omega), hq2, show 10 + ci - 10 = ci by omega]; exact kNfq hq
  have hkn : k < (G.2.1 b).2 := by omega
  have hkt : kFt ci k = 2 := by unfold kFt; rw [hty]; rfl
  rw [show ((0, n3, x) :: (10 + ci, n, (b : Int)) :: st).map (kcv X) = .int (Int32.ofInt x) :: .ref (X.1 + b) :: st.map (kcv X) by rw [show 10 + ci = (6 + ci) + 4 by omega]; rfl]
  refine va_put (ty := .boolean) fx fb fws (kIn ci q hq) (kTy ci) (kTyOk ci q hq) (kNm ci q hq) fown fK hM.1 (kws_D X G I) hS b (a := X.1 + b) ((kws_at X G I hq1).trans (by rw [kcell_o hq2])) (by rw [hq]) k hk (fws _ hw) (fun _ z => z) hf ((kTyOk ci q hq k hk).trans (by rw [hty])) (by rcases hx with rfl | rfl <;> decide) (by rcases hx with rfl | rfl <;> decide) (by simpa using hkn) hd (fun H1 locs1 hP1 hD1 hS1 => ?_)
  have hM1 : kSim X lay G (kst I b k x) H1 := by
    refine hM.st (k := k) (v := x) hP1 ?_ ?_
    · rw [kcell_o hq2]
      rw [kfs_set (G' := G) (I' := kst I b k x)]
      · unfold kfv kst; rw [if_pos (by omega), if_pos ⟨rfl, rfl⟩]
      · intro j hj hjk
        have e : kst I b k x b j = I b j := by unfold kst; rw [if_neg (by omega)]
        unfold kfv
        rw [e]
    · rw [hq2]; unfold kek; rw [if_pos (by omega), show 10 + ci - 10 = ci by omega, hkt]; exact (show 0 ≤ x ∧ x ≤ 1 by omega)
  exact h X p l e R s m args below meth c H1 locs1 cells slots ls G0 F hc hs hz he hM1 hS1 hl hL hv
theorem kr_putF {xs : KS} {lay : Bool} {d kc ks j pc : Nat} {L : KL} {st : List KV} {G : KG} {I : KI} {Q : KQ} {ci k idx n : Nat} {q : vw_C} {a : Int} {t w : Nat} {x : Int} (hd : decode (kMb j) pc = .ok (.putfield idx, 3)) (hq : kcl[ci]? = some q) (hk : k < q.2.2) (hw : Cond.fieldLink (kMy j).cls idx (q.2.1 k).1 (q.2.1 k).2.1 (q.2.1 k).2.2.1 ∈ kWords) (hf : (q.2.1 k).2.2.2 = true) (hft : kFt ci k = t + 4) (hrt : (∃ C, kTy ci k = .object C) ∨ ∃ u, kTy ci k = .array u) (hlay : lay = false) (hin : kMk j = 2) (hdc : (q.2.1 k).1 = (kMy j).cls) (h : kWP xs lay d kc ks j (pc + 3) L st (kGr G a k x) I Q) : kWP xs lay d kc ks j pc L ((t + 4, w, x) :: (10 + ci, n, a) :: st) G I Q := by
  intro X p l e R s m args below meth c H locs cells slots ls G0 F hc hs hz he hM hS hl hL hv
  obtain ⟨fx, fb, fml, fown, fret, flk, fini, fws, ffr, flo, ⟨fK, fN, fZ, fT⟩, fXs, fbs⟩ := id F
  have v2 := hv _ (List.mem_cons_of_mem _ List.mem_cons_self)
  rw [show 10 + ci = (6 + ci) + 4 by omega] at v2
  obtain ⟨b, rfl, hq1, hq2, hq3⟩ := kvr v2
  obtain ⟨v0, hv⟩ := fmc hv
  obtain ⟨v3, hv⟩ := fmc hv
  have hq2 : (G.2.1 b).1 = 10 + ci := by omega
  have hn : (G.2.1 b).2 = q.2.2 := by rw [(hM.2.1 b hq1).2.2.2 (by omega), hq2, show 10 + ci - 10 = ci by omega]; exact kNfq hq
  have hkn : k < (G.2.1 b).2 := by omega
  have hkt : kFt ci k = t + 4 := hft
  have h3 : 0 ≤ x ∧ x < G.1 ∧ (G.2.1 x).1 = t + 4 ∧ (t + 4 < 10 → (G.2.1 x).2 = w) := v0
  rw [show ((t + 4, w, x) :: (10 + ci, n, (b : Int)) :: st).map (kcv X) = .ref (X.1 + x.toNat) :: .ref (X.1 + b) :: st.map (kcv X) by rw [show 10 + ci = (6 + ci) + 4 by omega]; rfl]
  refine va_putF (ty := kTy ci k) fx fb fws (kIn ci q hq) (kTy ci) (kTyOk ci q hq) (kNm ci q hq) fown fK hM.1 (kws_D X G I) hS b (a := X.1 + b) ((kws_at X G I hq1).trans (by rw [kcell_o hq2])) (by rw [hq]) k hk (fws _ hw) (fun _ z => z) hf (fini hin) hdc (kTyOk ci q hq k hk) (by rcases hrt with ⟨C, hC⟩ | ⟨u, hC⟩ <;> rw [hC] <;> rfl) (by rcases hrt with ⟨C, hC⟩ | ⟨u, hC⟩ <;> rw [hC] <;> rfl) (by simpa using hkn) hd (fun H1 locs1 hP1 hD1 hS1 => ?_)
  have hM1 : kSim X lay (kGr G b k x) I H1 := by
    refine hM.r (k := k) (v := x) hP1 ?_ ?_ ?_
    · rw [kcell_o (G := kGr G b k x) hq2]
      have hsame : ((kGr G b k x).2.1 b).2 = (G.2.1 b).2 := rfl
      rw [hsame, kfs_set (G' := kGr G b k x) (I' := I)]
      · unfold kfv kGr kst krf; simp only [and_self, if_true]; rw [if_neg (by omega), if_neg (by omega)]; rfl
      · intro j hj hjk
        have e : (kGr G b k x).2.2 b j = G.2.2 b j := by
          show (if (b : Int) = b ∧ (j : Int) = k then x else G.2.2 b j) = _
          rw [if_neg (fun h => hjk (by omega))]
        unfold kfv
        rw [e]
    · rw [hq2]; unfold kek; rw [if_pos (by omega), show 10 + ci - 10 = ci by omega, hkt]; exact Or.inr ⟨by omega, by omega⟩
    · intro hl1; rw [hlay] at hl1; cases hl1
  exact h X p l e R s m args below meth c H1 locs1 cells slots ls G0 F hc hs hz (he.tr (kExt.r G b k x)) hM1 hS1 hl (fun q hq => (hL q hq).r) (fun v hq => (hv v hq).r)
theorem kr_putM {xs : KS} {lay : Bool} {d kc ks j pc : Nat} {L : KL} {st : List KV} {G : KG} {I : KI} {Q : KQ} {ci k idx n : Nat} {q : vw_C} {a : Int} {t w : Nat} {x : Int} (hd : decode (kMb j) pc = .ok (.putfield idx, 3)) (hq : kcl[ci]? = some q) (hk : k < q.2.2) (hw : Cond.fieldLink (kMy j).cls idx (q.2.1 k).1 (q.2.1 k).2.1 (q.2.1 k).2.2.1 ∈ kWords) (hf : (q.2.1 k).2.2.2 = false) (hft : kFt ci k = t + 4) (hrt : (∃ C, kTy ci k = .object C) ∨ ∃ u, kTy ci k = .array u) (hlay : lay = false) (h : kWP xs lay d kc ks j (pc + 3) L st (kGr G a k x) I Q) : kWP xs lay d kc ks j pc L ((t + 4, w, x) :: (10 + ci, n, a) :: st) G I Q := by
  intro X p l e R s m args below meth c H locs cells slots ls G0 F hc hs hz he hM hS hl hL hv
  obtain ⟨fx, fb, fml, fown, fret, flk, fini, fws, ffr, flo, ⟨fK, fN, fZ, fT⟩, fXs, fbs⟩ := id F
  have v2 := hv _ (List.mem_cons_of_mem _ List.mem_cons_self)
  rw [show 10 + ci = (6 + ci) + 4 by omega] at v2
  obtain ⟨b, rfl, hq1, hq2, hq3⟩ := kvr v2
  obtain ⟨v0, hv⟩ := fmc hv
  obtain ⟨v3, hv⟩ := fmc hv
  have hq2 : (G.2.1 b).1 = 10 + ci := by omega
  have hn : (G.2.1 b).2 = q.2.2 := by rw [(hM.2.1 b hq1).2.2.2 (by omega), hq2, show 10 + ci - 10 = ci by omega]; exact kNfq hq
  have hkn : k < (G.2.1 b).2 := by omega
  have hkt : kFt ci k = t + 4 := hft
  have h3 : 0 ≤ x ∧ x < G.1 ∧ (G.2.1 x).1 = t + 4 ∧ (t + 4 < 10 → (G.2.1 x).2 = w) := v0
  rw [show ((t + 4, w, x) :: (10 + ci, n, (b : Int)) :: st).map (kcv X) = .ref (X.1 + x.toNat) :: .ref (X.1 + b) :: st.map (kcv X) by rw [show 10 + ci = (6 + ci) + 4 by omega]; rfl]
  refine va_put (ty := kTy ci k) fx fb fws (kIn ci q hq) (kTy ci) (kTyOk ci q hq) (kNm ci q hq) fown fK hM.1 (kws_D X G I) hS b (a := X.1 + b) ((kws_at X G I hq1).trans (by rw [kcell_o hq2])) (by rw [hq]) k hk (fws _ hw) (fun _ z => z) hf (kTyOk ci q hq k hk) (by rcases hrt with ⟨C, hC⟩ | ⟨u, hC⟩ <;> rw [hC] <;> rfl) (by rcases hrt with ⟨C, hC⟩ | ⟨u, hC⟩ <;> rw [hC] <;> rfl) (by simpa using hkn) hd (fun H1 locs1 hP1 hD1 hS1 => ?_)
  have hM1 : kSim X lay (kGr G b k x) I H1 := by
    refine hM.r (k := k) (v := x) hP1 ?_ ?_ ?_
    · rw [kcell_o (G := kGr G b k x) hq2]
      have hsame : ((kGr G b k x).2.1 b).2 = (G.2.1 b).2 := rfl
      rw [hsame, kfs_set (G' := kGr G b k x) (I' := I)]
      · unfold kfv kGr kst krf; simp only [and_self, if_true]; rw [if_neg (by omega), if_neg (by omega)]; rfl
      · intro j hj hjk
        have e : (kGr G b k x).2.2 b j = G.2.2 b j := by
          show (if (b : Int) = b ∧ (j : Int) = k then x else G.2.2 b j) = _
          rw [if_neg (fun h => hjk (by omega))]
        unfold kfv
        rw [e]
    · rw [hq2]; unfold kek; rw [if_pos (by omega), show 10 + ci - 10 = ci by omega, hkt]; exact Or.inr ⟨by omega, by omega⟩
    · intro hl1; rw [hlay] at hl1; cases hl1
  exact h X p l e R s m args below meth c H1 locs1 cells slots ls G0 F hc hs hz (he.tr (kExt.r G b k x)) hM1 hS1 hl (fun q hq => (hL q hq).r) (fun v hq => (hv v hq).r)
theorem kr_putT {xs : KS} {lay : Bool} {d kc ks j pc : Nat} {L : KL} {st : List KV} {G : KG} {I : KI} {Q : KQ} {idx n w : Nat} {a x : Int} (hd : decode (kMb j) pc = .ok (.putfield idx, 3)) (hw : Cond.fieldLink (kMy j).cls idx (TX1 2).1 (TX1 2).2.1 (TX1 2).2.2.1 ∈ kWords) (hw2 : w = 120) (h : kWP xs lay d kc ks j (pc + 3) L st (kGr G a 2 x) I Q) : kWP xs lay d kc ks j pc L ((6, w, x) :: (11, n, a) :: st) G I Q := by
  intro X p l e R s m args below meth c H locs cells slots ls G0 F hc hs hz he hM hS hl hL hv
  subst hw2
  obtain ⟨ci, hci⟩ : ∃ ci : Nat, ci = 1 := ⟨1, rfl⟩
  obtain ⟨k, hkk⟩ : ∃ k : Nat, k = 2 := ⟨2, rfl⟩
  obtain ⟨t, htt⟩ : ∃ t : Nat, t = 2 := ⟨2, rfl⟩
  obtain ⟨w, hww⟩ : ∃ w : Nat, w = 120 := ⟨120, rfl⟩
  obtain ⟨q, hqq⟩ : ∃ q : vw_C, q = (RX1, TX1, 11) := ⟨_, rfl⟩
  have hq : kcl[ci]? = some q := by rw [hci, hqq]; rfl
  have hk : k < q.2.2 := by rw [hqq, hkk]; decide
  have hf : (q.2.1 k).2.2.2 = false := by rw [hqq, hkk]; rfl
  have hft : kFt ci k = t + 4 := by rw [hci, hkk, htt]; rfl
  have hrt : (∃ C, kTy ci k = .object C) ∨ ∃ u, kTy ci k = .array u := Or.inr ⟨.byte, by rw [hci, hkk]; rfl⟩
  have hw : Cond.fieldLink (kMy j).cls idx (q.2.1 k).1 (q.2.1 k).2.1 (q.2.1 k).2.2.1 ∈ kWords := by rw [hqq, hkk]; exact hw
  have e11 : (11 : Nat) = 10 + ci := by omega
  have e6 : (6 : Nat) = t + 4 := by omega
  have e120 : (120 : Nat) = w := by omega
  have h : kWP xs lay d kc ks j (pc + 3) L st (kGr G a k x) I Q := by rw [hkk]; exact h
  rw [e11, e6, e120] at hv ⊢
  obtain ⟨fx, fb, fml, fown, fret, flk, fini, fws, ffr, flo, ⟨fK, fN, fZ, fT⟩, fXs, fbs⟩ := id F
  have v2 := hv _ (List.mem_cons_of_mem _ List.mem_cons_self)
  rw [show 10 + ci = (6 + ci) + 4 by omega] at v2
  obtain ⟨b, rfl, hq1, hq2, hq3⟩ := kvr v2
  obtain ⟨v0, hv⟩ := fmc hv
  obtain ⟨v3, hv⟩ := fmc hv
  have hq2 : (G.2.1 b).1 = 10 + ci := by omega
  have hn : (G.2.1 b).2 = q.2.2 := by rw [(hM.2.1 b hq1).2.2.2 (by omega), hq2, show 10 + ci - 10 = ci by omega]; exact kNfq hq
  have hkn : k < (G.2.1 b).2 := by omega
  have hkt : kFt ci k = t + 4 := hft
  have h3 : 0 ≤ x ∧ x < G.1 ∧ (G.2.1 x).1 = t + 4 ∧ (t + 4 < 10 → (G.2.1 x).2 = w) := v0
  rw [show ((t + 4, w, x) :: (10 + ci, n, (b : Int)) :: st).map (kcv X) = .ref (X.1 + x.toNat) :: .ref (X.1 + b) :: st.map (kcv X) by rw [show 10 + ci = (6 + ci) + 4 by omega]; rfl]
  refine va_put (ty := kTy ci k) fx fb fws (kIn ci q hq) (kTy ci) (kTyOk ci q hq) (kNm ci q hq) fown fK hM.1 (kws_D X G I) hS b (a := X.1 + b) ((kws_at X G I hq1).trans (by rw [kcell_o hq2])) (by rw [hq]) k hk (fws _ hw) (fun _ z => z) hf (kTyOk ci q hq k hk) (by rcases hrt with ⟨C, hC⟩ | ⟨u, hC⟩ <;> rw [hC] <;> rfl) (by rcases hrt with ⟨C, hC⟩ | ⟨u, hC⟩ <;> rw [hC] <;> rfl) (by simpa using hkn) hd (fun H1 locs1 hP1 hD1 hS1 => ?_)
  have hM1 : kSim X lay (kGr G b k x) I H1 := by
    refine hM.r (k := k) (v := x) hP1 ?_ ?_ ?_
    · rw [kcell_o (G := kGr G b k x) hq2]
      have hsame : ((kGr G b k x).2.1 b).2 = (G.2.1 b).2 := rfl
      rw [hsame, kfs_set (G' := kGr G b k x) (I' := I)]
      · unfold kfv kGr kst krf; simp only [and_self, if_true]; rw [if_neg (by omega), if_neg (by omega)]; rfl
      · intro j hj hjk
        have e : (kGr G b k x).2.2 b j = G.2.2 b j := by
          show (if (b : Int) = b ∧ (j : Int) = k then x else G.2.2 b j) = _
          rw [if_neg (fun h => hjk (by omega))]
        unfold kfv
        rw [e]
    · rw [hq2]; unfold kek; rw [if_pos (by omega), show 10 + ci - 10 = ci by omega, hkt]; exact Or.inr ⟨by omega, by omega⟩
    · intro hl1
      intro a ha i hi
      have hr := hM.2.2.2 hl1 a ha i hi
      refine ⟨fun o ho => ?_, fun hm => ?_⟩
      · obtain ⟨r1, r2⟩ := hr.1 o ho
        refine ⟨?_, r2.r⟩
        by_cases hab : a = b ∧ i = k
        · exfalso
          obtain ⟨rfl, rfl⟩ := hab
          have ho2 : kOff (G.2.1 a).1 i = some o := ho
          rw [hq2, hci, hkk] at ho2
          cases ho2
        · unfold kGr kst
          simp only
          rw [if_neg (by omega)]
          exact r1
      · have hr2 := hr.2 hm
        by_cases hab : a = b ∧ i = k
        · obtain ⟨rfl, rfl⟩ := hab
          have e : (kGr G a i x).2.2 a i = x := by unfold kGr kst; simp
          rw [e]
          rw [htt, hww] at v0
          exact v0.r
        · have e : (kGr G b k x).2.2 a i = G.2.2 a i := by unfold kGr kst; simp only; rw [if_neg (by omega)]
          rw [e]
          exact hr2.r
  exact h X p l e R s m args below meth c H1 locs1 cells slots ls G0 F hc hs hz (he.tr (kExt.r G b k x)) hM1 hS1 hl (fun q hq => (hL q hq).r) (fun v hq => (hv v hq).r)
theorem kr_aast {xs : KS} {lay : Bool} {d kc ks j pc : Nat} {L : KL} {st : List KV} {G : KG} {I : KI} {Q : KQ} {t n n2 n3 : Nat} {a i x : Int} {ci : Nat} (hd : decode (kMb j) pc = .ok (.aastore, 1)) (h0 : 0 ≤ i) (hi : i < n) (hlay : lay = false) (ht : (t = 8 ∧ ci = 3) ∨ (t = 9 ∧ ci = 5)) (h : kWP xs lay d kc ks j (pc + 1) L st (kGr G a i x) I Q) : kWP xs lay d kc ks j pc L ((10 + ci, n3, x) :: (0, n2, i) :: (t, n, a) :: st) G I Q := by
  intro X p l e R s m args below meth c H locs cells slots ls G0 F hc hs hz he hM hS hl hL hv
  obtain ⟨fx, fb, fml, fown, fret, flk, fini, fws, ffr, flo, ⟨fK, fN, fZ, fT⟩, fXs, fbs⟩ := id F
  obtain ⟨u, rfl⟩ : ∃ u, t = u + 4 := ⟨t - 4, by omega⟩
  have w0 := hv _ List.mem_cons_self
  rw [show 10 + ci = (6 + ci) + 4 by omega] at w0
  obtain ⟨z, rfl, hz1, hz2, hz3⟩ := kvr w0
  obtain ⟨q, rfl, hq1, hq2, hq3⟩ := kvr (hv _ (List.mem_cons_of_mem _ (List.mem_cons_of_mem _ List.mem_cons_self)))
  obtain ⟨v0, hv⟩ := fmc hv
  obtain ⟨v1, hv⟩ := fmc hv
  obtain ⟨v2, hv⟩ := fmc hv
  have hq3 := hq3 (by omega)
  have hn : n < 2147483648 := by have := (hM.2.1 q hq1).2.2.1; omega
  rw [show ((10 + ci, n3, (z : Int)) :: (0, n2, i) :: (u + 4, n, (q : Int)) :: st).map (kcv X) = .ref (X.1 + z) :: .int (Int32.ofInt i) :: .ref (X.1 + q) :: st.map (kcv X) by rw [show 10 + ci = (6 + ci) + 4 by omega]; rfl]
  have key : ∀ (r : vw_C), (ktys X)[u]? = some (X.2.2.1 (u + 4), .object r.1) → kcl[ci]? = some r → W p l e R s m args below meth c H locs cells slots (MQ below (kQ X j lay (s.heap.size + cells + kc) G0 Q) args s (cells + kc) (slots + ks) (kA X)) (F0 m pc ls (.ref (X.1 + z) :: .int (Int32.ofInt i) :: .ref (X.1 + q) :: st.map (kcv X))) := by
    intro r hr1 hr2
    refine va_astq (r := r) fx fb fK hM.1 (kws_D X G I) hS q u z ci (n := n) (f := fun j => krf X (G.2.2 q j)) (a := X.1 + q) (v := X.1 + z) ((kws_at X G I hq1).trans (by rw [kcell_q hq2 hq3 (by omega)])) hr1 ((kws_at X G I hz1).trans (by rw [kcell_o (by omega : (G.2.1 z).1 = 10 + ci)])) hr2 (of32_in h0 (by omega) hi) hd (fun H1 locs1 hP1 hD1 hS1 => ?_)
    have hM1 : kSim X lay (kGr G q i z) I H1 := by
      have hup : va_up (fun j => krf X (G.2.2 q j)) (Int32.ofInt i).toNatClampNeg (some (X.1 + z)) = (fun j : Nat => krf X ((kGr G q i z).2.2 q j)) := by
        funext j
        unfold va_up kGr kst
        simp only
        rw [of32_nat h0 (by omega)]
        by_cases hj : j = i.toNat
        · rw [if_pos hj, if_pos ⟨trivial, by omega⟩]
          unfold krf; rw [if_neg (by omega)]; rfl
        · rw [if_neg hj, if_neg (by omega)]
      rw [hup] at hP1
      have h5 := kSim.r (k := i.toNat) (v := (z : Int)) hM hP1
      rw [show ((i.toNat : Nat) : Int) = i by omega] at h5
      refine h5 (kcell_q (G := kGr G q i z) hq2 hq3 (by omega)) ?_ (fun hl1 => by rw [hlay] at hl1; cases hl1)
      rw [hq2]
      rcases ht with ⟨h8, h9⟩ | ⟨h8, h9⟩
      · obtain rfl : u = 4 := by omega
        exact Or.inr ⟨by omega, by show (G.2.1 (z : Int)).1 = 13; omega⟩
      · obtain rfl : u = 5 := by omega
        exact Or.inr ⟨by omega, by show (G.2.1 (z : Int)).1 = 15; omega⟩
    exact h X p l e R s m args below meth c H1 locs1 cells slots ls G0 F hc hs hz (he.tr (kExt.r G q i z)) hM1 hS1 hl (fun q hq => (hL q hq).r) (fun v hq => (hv v hq).r)
  rcases ht with ⟨h8, h9⟩ | ⟨h8, h9⟩
  · obtain rfl : u = 4 := by omega
    subst h9
    exact key (RX3, TX3, 8) rfl rfl
  · obtain rfl : u = 5 := by omega
    subst h9
    exact key (RX5, TX5, 5) rfl rfl
def kGn (G : KG) (t n : Nat) : KG := (G.1 + 1, (fun a => if a = (G.1 : Int) then (t, n) else G.2.1 a), fun a k => if a = (G.1 : Int) then -1 else G.2.2 a k)
def kIn0 (G : KG) (I : KI) : KI := fun a k => if a = (G.1 : Int) then 0 else I a k
theorem kGn_ext (G : KG) (t n : Nat) : kExt G (kGn G t n) := ⟨Nat.le_succ _, fun a _ h1 => by unfold kGn; simp only; rw [if_neg (by omega)]⟩
theorem kcell_n {X : KX} {G : KG} {I : KI} {t n b : Nat} (h : b < G.1) : kcell X (kGn G t n) (kIn0 G I) b = kcell X G I b := by
  have e1 : (kGn G t n).2.1 b = G.2.1 b := by unfold kGn; simp only; rw [if_neg (by omega)]
  have e2 : ∀ j, (kGn G t n).2.2 b j = G.2.2 b j := fun j => by unfold kGn; simp only; rw [if_neg (by omega)]
  have e3 : ∀ j, kIn0 G I b j = I b j := fun j => by unfold kIn0; rw [if_neg (by omega)]
  unfold kcell kfv
  simp only [e1, e2, e3]
theorem kws_n {X : KX} {G : KG} {I : KI} {t n : Nat} : kws X (kGn G t n) (kIn0 G I) = kws X G I ++ [(X.1 + G.1, kcell X (kGn G t n) (kIn0 G I) G.1)] := by
  unfold kws
  rw [show (kGn G t n).1 = G.1 + 1 from rfl, List.range_succ, List.map_append]
  congr 1
  apply List.map_congr_left
  intro b hb
  rw [kcell_n (List.mem_range.mp hb)]
theorem kSim.n {X : KX} {G : KG} {I : KI} {H H1 : Heap} {t n : Nat} (h : kSim X false G I H) (hP : va_P X.2.1 kcl (kws X G I) H1) (hc : va_at X.2.1 kcl (X.1 + G.1, kcell X (kGn G t n) (kIn0 G I) G.1) H1) (h4 : 4 ≤ t) (h20 : t < 20) (hn : n < 2147483648) (ho : 10 ≤ t → n = kNf (t - 10)) : kSim X false (kGn G t n) (kIn0 G I) H1 := by
  have e0 : (kGn G t n).2.1 (G.1 : Int) = (t, n) := by unfold kGn; simp
  have e1 : ∀ b : Nat, b < G.1 → (kGn G t n).2.1 b = G.2.1 b := fun b hb => by unfold kGn; simp only; rw [if_neg (by omega)]
  refine ⟨?_, ?_, ?_, fun hl => by cases hl⟩
  · rw [kws_n]
    refine hP.app (fun k q hk => ?_)
    have hz : k < 1 := (List.getElem?_eq_some_iff.mp hk).1
    rw [show k = 0 by omega] at hk
    cases hk
    exact hc
  · intro a ha
    have ha : a < G.1 + 1 := ha
    by_cases hag : a = G.1
    · subst hag
      rw [e0]
      exact ⟨h4, h20, hn, ho⟩
    · rw [e1 a (by omega)]
      exact h.2.1 a (by omega)
  · intro a ha k hk
    have ha : a < G.1 + 1 := ha
    by_cases hag : a = G.1
    · subst hag
      have r0 : (kGn G t n).2.2 (G.1 : Int) k = -1 := by unfold kGn; simp
      have i0 : kIn0 G I (G.1 : Int) k = 0 := by unfold kIn0; simp
      rw [r0, i0]
      unfold kgood
      split <;> first | omega | decide
    · have r1 : (kGn G t n).2.2 a k = G.2.2 a k := by unfold kGn; simp only; rw [if_neg (by omega)]
      have i1 : kIn0 G I a k = I a k := by unfold kIn0; rw [if_neg (by omega)]
      rw [e1 a (by omega)] at hk ⊢
      rw [r1, i1]
      have hg := h.2.2.1 a (by omega) k hk
      revert hg
      unfold kgood
      split <;> try exact id
      rintro (hg | ⟨g1, g2⟩)
      · exact Or.inl hg
      · rcases Int.lt_or_le (G.2.2 a k) 0 with hneg | hpos
        · exact Or.inl hneg
        · refine Or.inr ⟨by show G.2.2 a k < ((G.1 + 1 : Nat) : Int); omega, ?_⟩
          have : (kGn G t n).2.1 (G.2.2 a k) = G.2.1 (G.2.2 a k) := by unfold kGn; simp only; rw [if_neg (by omega)]
          rw [this]; exact g2
theorem kDef : ∀ ci, ci < 10 → ∀ k, k < kNf ci → defaultValue (kTy ci k) = (if kFt ci k < 4 then Value.int 0 else Value.null) := by decide +kernel
theorem kr_new {xs : KS} {lay : Bool} {d kc ks j pc : Nat} {L : KL} {st : List KV} {G : KG} {I : KI} {Q : KQ} {ci idx : Nat} {q : vw_C} (hd : decode (kMb j) pc = .ok (.new idx, 3)) (hlay : lay = false) (hq : kcl[ci]? = some q) (hw1 : Cond.classLink (kMy j).cls idx q.1 ∈ kWords) (hw2 : Cond.instantiable q.1 q.2.2 ∈ kWords) (hw3 : Cond.initialized q.1 ∈ kWords) (h : kWP xs lay d kc ks j (pc + 3) L ((10 + ci, 0, (G.1 : Int)) :: st) (kGn G (10 + ci) q.2.2) (kIn0 G I) Q) : kWP xs lay d (kc + 1) (ks + q.2.2) j pc L st G I Q := by
  intro X p l e R s m args below meth c H locs cells slots ls G0 F hc hs hz he hM hS hl hL hv
  obtain ⟨fx, fb, fml, fown, fret, flk, fini, fws, ffr, flo, ⟨fK, fN, fZ, fT⟩, fXs, fbs⟩ := id F
  refine W.size (fun hsz => ?_)
  have hsz2 := hM.size (Nat.le_trans fbs hS.1)
  have hszE : H.size = X.1 + G.1 := by omega
  subst hlay
  have hKn := fK.1 ci _ hq
  have hci : ci < 10 := (List.getElem?_eq_some_iff.mp hq).1
  have hN : q.2.2 = kNf ci := (kNfq hq).symm
  have hN2 : kNf ci < 2147483648 := by
    have : ∀ c, c < 10 → kNf c < 2147483648 := by decide +kernel
    exact this ci hci
  refine W.newcK fx fb fown (fws _ hw1) (fws _ hw2) (fws _ hw3) rfl hd (by omega) (by omega) hKn.2.1 hszE fun H1 kC hkC e1 z1 o1 => ?_
  have hk : ∀ (k : Nat) (x : Nat × va_E), (kws X G I)[k]? = some x → H1[x.1]? = H[x.1]? := fun k x hx => o1 x.1 (by rw [← hszE]; exact (hM.1 k x hx).lt)
  have hM1 : kSim X false (kGn G (10 + ci) q.2.2) (kIn0 G I) H1 := by
    refine hM.n (hM.1.kept hk) ?_ (by omega) (by omega) (by omega) (fun _ => by rw [show 10 + ci - 10 = ci by omega]; exact hN)
    have e0 : (kGn G (10 + ci) q.2.2).2.1 (G.1 : Int) = (10 + ci, q.2.2) := by unfold kGn; simp
    rw [kcell_o (by rw [e0])]
    refine ⟨q, hq, (u_born (kTy ci) fws (kIn ci q hq) hKn hkC e1 (kTyOk ci q hq)).to (fun k hk2 => ?_)⟩
    rw [e0]
    unfold vp_V
    rw [List.getD_eq_getElem?_getD, kfs_at hk2, Option.getD_some]
    rw [kDef ci hci k (by omega)]
    have r0 : (kGn G (10 + ci) q.2.2).2.2 (G.1 : Int) k = -1 := by unfold kGn; simp
    have i0 : kIn0 G I (G.1 : Int) k = 0 := by unfold kIn0; simp
    unfold kfv
    rw [r0, i0]
    split
    · rfl
    · rfl
  have hS1 : va_S (kA X) s.heap H1 locs := ⟨Nat.le_trans hS.1 (by omega), fun x h1 h2 => (o1 x (by rw [← hszE]; exact Nat.lt_of_lt_of_le h1 hS.1)).trans (hS.2.1 x h1 h2), hS.2.2⟩
  have h5 := h X p l e R s m args below meth c H1 locs (cells + 1) (slots + q.2.2) ls G0 F (by omega) (by omega) (by show s.heap.size + (cells + 1) = X.1 + (G.1 + 1); omega) (he.tr (kGn_ext _ _ _)) hM1 hS1 hl (fun z hz => (hL z hz).ext (kGn_ext _ _ _)) (fmk ?_ (fun v hq => (hv v hq).ext (kGn_ext _ _ _)))
  · rw [show cells + 1 + kc = cells + (kc + 1) by omega, show slots + q.2.2 + ks = slots + (ks + q.2.2) by omega, show s.heap.size + (cells + 1) + kc = s.heap.size + cells + (kc + 1) by omega] at h5
    rw [show ((10 + ci, 0, (G.1 : Int)) :: st).map (kcv X) = .ref (X.1 + G.1) :: st.map (kcv X) by rw [show 10 + ci = (6 + ci) + 4 by omega]; rfl] at h5
    exact h5
  · have e0 : (kGn G (10 + ci) q.2.2).2.1 (G.1 : Int) = (10 + ci, q.2.2) := by unfold kGn; simp
    rw [show 10 + ci = (6 + ci) + 4 by omega] at e0 ⊢
    refine ⟨by show (0 : Int) ≤ (G.1 : Int); omega, by show (G.1 : Int) < ((G.1 + 1 : Nat) : Int); omega, ?_, fun hlt => by omega⟩
    rw [e0]
def kAty (t : Nat) : FieldType := match t with
  | 4 => .int
  | 5 => .long
  | 6 => .byte
  | _ => .boolean
theorem kr_newa {xs : KS} {lay : Bool} {d kc ks j pc : Nat} {L : KL} {st : List KV} {G : KG} {I : KI} {Q : KQ} {t n n2 : Nat} {atype : ArrayType} (hd : decode (kMb j) pc = .ok (.newarray atype, 2)) (hlay : lay = false) (ht : 4 ≤ t ∧ t ≤ 7) (hty : newarray.typeOf atype = kAty t) (hn : n < 60000) (hw : Cond.arrayClass (kAty t) ∈ kWords) (h : kWP xs lay d kc ks j (pc + 2) L ((t, n, (G.1 : Int)) :: st) (kGn G t n) (kIn0 G I) Q) : kWP xs lay d (kc + 1) (ks + n) j pc L ((0, n2, (n : Int)) :: st) G I Q := by
  intro X p l e R s m args below meth c H locs cells slots ls G0 F hc hs hz he hM hS hl hL hv
  obtain ⟨fx, fb, fml, fown, fret, flk, fini, fws, ffr, flo, ⟨fK, fN, fZ, fT⟩, fXs, fbs⟩ := id F
  refine W.size (fun hsz => ?_)
  have hsz2 := hM.size (Nat.le_trans fbs hS.1)
  have hszE : H.size = X.1 + G.1 := by omega
  subst hlay
  obtain ⟨v0, hv⟩ := fmc hv
  have hcb : n * componentBytes (kAty t) ≤ 536870912 := by
    have : componentBytes (kAty t) ≤ 8 := by rcases (show t = 4 ∨ t = 5 ∨ t = 6 ∨ t = 7 by omega) with rfl | rfl | rfl | rfl <;> decide
    exact Nat.le_trans (Nat.mul_le_mul (Nat.le_of_lt hn) this) (by decide)
  refine va_newaK (N := n) fx fb (by rw [hty]; exact fws _ hw) rfl hd (n := Int32.ofInt (n : Int)) rfl (by rw [Int32.lt_iff_toInt_lt, toInt_of32 (by omega) (by omega)]; simp) (by rw [of32_nat (by omega) (by omega)]; simp) (by rw [hty]; exact hcb) (by omega) (by omega) hszE fun H1 cA e1 z1 o1 hAr hNm => ?_
  rw [hty] at e1 hAr hNm
  have hcA : cA = X.2.2.1 t := by
    have hra := (fK.2 (t - 4) (X.2.2.1 t, kAty t) (by rcases (show t = 4 ∨ t = 5 ∨ t = 6 ∨ t = 7 by omega) with rfl | rfl | rfl | rfl <;> rfl)).2
    have hra2 : s.vm.findClass ("[" ++ (kAty t).toString) = some (X.2.2.1 t) := by rcases (show t = 4 ∨ t = 5 ∨ t = 6 ∨ t = 7 by omega) with rfl | rfl | rfl | rfl <;> exact hra
    exact Option.some.inj (hNm.symm.trans hra2)
  subst hcA
  have hk : ∀ (k : Nat) (x : Nat × va_E), (kws X G I)[k]? = some x → H1[x.1]? = H[x.1]? := fun k x hx => o1 x.1 (by rw [← hszE]; exact (hM.1 k x hx).lt)
  have hM1 : kSim X false (kGn G t n) (kIn0 G I) H1 := by
    refine hM.n (hM.1.kept hk) ?_ (by omega) (by omega) (by omega) (fun _ => by omega)
    have e0 : (kGn G t n).2.1 (G.1 : Int) = (t, n) := by unfold kGn; simp
    have i0 : ∀ j : Int, kIn0 G I (G.1 : Int) j = 0 := fun j => by unfold kIn0; simp
    show va_at X.2.1 kcl (X.1 + G.1, kcell X (kGn G t n) (kIn0 G I) G.1) H1
    rcases (show t = 5 ∨ (t = 4 ∨ t = 6 ∨ t = 7) by omega) with h5 | h5
    · subst h5
      rw [kcell_l (by rw [e0]) (by rw [e0])]
      show H1[X.1 + G.1]? = some (vp_cell _ _)
      rw [e1, vp_cell_l]
      simp only [i0]
      rfl
    · rw [kcell_i (by rw [e0]) (by rw [e0]) h5]
      show H1[X.1 + G.1]? = some (vp_cell _ _)
      rw [e1, vp_cell_i]
      simp only [i0]
      rcases h5 with rfl | rfl | rfl <;> rfl
  have hS1 : va_S (kA X) s.heap H1 locs := ⟨Nat.le_trans hS.1 (by omega), fun x h1 h2 => (o1 x (by rw [← hszE]; exact Nat.lt_of_lt_of_le h1 hS.1)).trans (hS.2.1 x h1 h2), hS.2.2⟩
  have h5 := h X p l e R s m args below meth c H1 locs (cells + 1) (slots + n) ls G0 F (by omega) (by omega) (by show s.heap.size + (cells + 1) = X.1 + (G.1 + 1); omega) (he.tr (kGn_ext _ _ _)) hM1 hS1 hl (fun z hz => (hL z hz).ext (kGn_ext _ _ _)) (fmk ?_ (fun v hq => (hv v hq).ext (kGn_ext _ _ _)))
  · rw [show cells + 1 + kc = cells + (kc + 1) by omega, show slots + n + ks = slots + (ks + n) by omega, show s.heap.size + (cells + 1) + kc = s.heap.size + cells + (kc + 1) by omega] at h5
    rw [show ((t, n, (G.1 : Int)) :: st).map (kcv X) = .ref (X.1 + G.1) :: st.map (kcv X) by obtain ⟨u, rfl⟩ : ∃ u, t = u + 4 := ⟨t - 4, by omega⟩; rfl] at h5
    exact h5
  · obtain ⟨u, rfl⟩ : ∃ u, t = u + 4 := ⟨t - 4, by omega⟩
    have e0 : (kGn G (u + 4) n).2.1 (G.1 : Int) = (u + 4, n) := by unfold kGn; simp
    refine ⟨by show (0 : Int) ≤ (G.1 : Int); omega, by show (G.1 : Int) < ((G.1 + 1 : Nat) : Int); omega, ?_, fun hlt => ?_⟩
    · rw [e0]
    · rw [e0]
theorem kr_anewa {xs : KS} {lay : Bool} {d kc ks j pc : Nat} {L : KL} {st : List KV} {G : KG} {I : KI} {Q : KQ} {t n n2 idx : Nat} {C : String} (hd : decode (kMb j) pc = .ok (.anewarray idx, 3)) (hlay : lay = false) (ht : (t = 8 ∧ C = RX3) ∨ (t = 9 ∧ C = RX5)) (hn : n < 60000) (hw : Cond.classLink (kMy j).cls idx C ∈ kWords) (h : kWP xs lay d kc ks j (pc + 3) L ((t, n, (G.1 : Int)) :: st) (kGn G t n) (kIn0 G I) Q) : kWP xs lay d (kc + 1) (ks + n) j pc L ((0, n2, (n : Int)) :: st) G I Q := by
  intro X p l e R s m args below meth c H locs cells slots ls G0 F hc hs hz he hM hS hl hL hv
  obtain ⟨fx, fb, fml, fown, fret, flk, fini, fws, ffr, flo, ⟨fK, fN, fZ, fT⟩, fXs, fbs⟩ := id F
  refine W.size (fun hsz => ?_)
  have hsz2 := hM.size (Nat.le_trans fbs hS.1)
  have hszE : H.size = X.1 + G.1 := by omega
  subst hlay
  obtain ⟨v0, hv⟩ := fmc hv
  have hAO : va_AO C s := by rcases ht with ⟨_, rfl⟩ | ⟨_, rfl⟩; exact fN.2.1; exact fN.2.2
  have hnn : (Int32.ofInt (n : Int)).toNatClampNeg = n := by rw [of32_nat (by omega) (by omega)]; simp
  refine W.anew fx fb fown (fws _ hw) (va_AO.use hAO) rfl hd (n := Int32.ofInt (n : Int)) rfl (by rw [Int32.lt_iff_toInt_lt, toInt_of32 (by omega) (by omega)]; simp) (by rw [hnn]; omega) (by omega) (by omega) fun cA kAA comp f1 f2 f3 f4 => ?_
  rw [hnn]
  generalize hH1 : H.push ({ cls := cA, slots := Array.replicate n .null, vm := .none } : Cell) = H1
  have z1 : H1.size = X.1 + G.1 + 1 := by rw [← hH1, Array.size_push, hszE]
  have e1 : H1[X.1 + G.1]? = some (arrV cA n (fun _ => .null)) := by rw [← hszE, ← hH1, Array.getElem?_push_size, ← arrV_new]
  have o1 : ∀ q : Nat, q < X.1 + G.1 → H1[q]? = H[q]? := fun q hq => by rw [← hH1, Array.getElem?_push, if_neg (by omega)]
  have hcA : cA = X.2.2.1 t := by
    rcases ht with ⟨rfl, rfl⟩ | ⟨rfl, rfl⟩
    · obtain ⟨kA', comp', g1, g2, g3, g4⟩ := (fK.2 4 (X.2.2.1 8, .object RX3) rfl).2
      exact Option.some.inj (f1.symm.trans g4)
    · obtain ⟨kA', comp', g1, g2, g3, g4⟩ := (fK.2 5 (X.2.2.1 9, .object RX5) rfl).2
      exact Option.some.inj (f1.symm.trans g4)
  subst hcA
  have hk : ∀ (k : Nat) (x : Nat × va_E), (kws X G I)[k]? = some x → H1[x.1]? = H[x.1]? := fun k x hx => o1 x.1 (by rw [← hszE]; exact (hM.1 k x hx).lt)
  rw [hszE]
  have hM1 : kSim X false (kGn G t n) (kIn0 G I) H1 := by
    refine hM.n (hM.1.kept hk) ?_ (by omega) (by omega) (by omega) (fun _ => by omega)
    have e0 : (kGn G t n).2.1 (G.1 : Int) = (t, n) := by unfold kGn; simp
    have r0 : ∀ j : Int, (kGn G t n).2.2 (G.1 : Int) j = -1 := fun j => by unfold kGn; simp
    show va_at X.2.1 kcl (X.1 + G.1, kcell X (kGn G t n) (kIn0 G I) G.1) H1
    rw [kcell_q (by rw [e0]) (by rw [e0]) (by omega)]
    show H1[X.1 + G.1]? = some (vp_cell _ _)
    rw [e1, vp_cell_q]
    simp only [r0]
    rfl
  have hS1 : va_S (kA X) s.heap H1 locs := ⟨Nat.le_trans hS.1 (by omega), fun x h1 h2 => (o1 x (by rw [← hszE]; exact Nat.lt_of_lt_of_le h1 hS.1)).trans (hS.2.1 x h1 h2), hS.2.2⟩
  have h5 := h X p l e R s m args below meth c H1 locs (cells + 1) (slots + n) ls G0 F (by omega) (by omega) (by show s.heap.size + (cells + 1) = X.1 + (G.1 + 1); omega) (he.tr (kGn_ext _ _ _)) hM1 hS1 hl (fun z hz => (hL z hz).ext (kGn_ext _ _ _)) (fmk ?_ (fun v hq => (hv v hq).ext (kGn_ext _ _ _)))
  · rw [show cells + 1 + kc = cells + (kc + 1) by omega, show slots + n + ks = slots + (ks + n) by omega, show s.heap.size + (cells + 1) + kc = s.heap.size + cells + (kc + 1) by omega] at h5
    rw [show ((t, n, (G.1 : Int)) :: st).map (kcv X) = .ref (X.1 + G.1) :: st.map (kcv X) by obtain ⟨u, rfl⟩ : ∃ u, t = u + 4 := ⟨t - 4, by omega⟩; rfl] at h5
    exact h5
  · obtain ⟨u, rfl⟩ : ∃ u, t = u + 4 := ⟨t - 4, by omega⟩
    have e0 : (kGn G (u + 4) n).2.1 (G.1 : Int) = (u + 4, n) := by unfold kGn; simp
    refine ⟨by show (0 : Int) ≤ (G.1 : Int); omega, by show (G.1 : Int) < ((G.1 + 1 : Nat) : Int); omega, ?_, fun hlt => ?_⟩
    · rw [e0]
    · rw [e0]
theorem kr_objinit {xs : KS} {lay : Bool} {d kc ks j pc : Nat} {L : KL} {st : List KV} {G : KG} {I : KI} {Q : KQ} {idx t n : Nat} {x : Int} (hd : decode (kMb j) pc = .ok (.invokespecial idx, 3)) (hst : st.length ≤ 4) (hw1 : Cond.methodLink (kMy j).cls idx Lib.objectInit ∈ kWords) (hw2 : Cond.instanceMethod Lib.objectInit ∈ kWords) (hw3 : Cond.code Lib.objectInit ⟨#[0xb1]⟩ 1 none ∈ kWords) (h : kWP xs lay d kc ks j (pc + 3) L st G I Q) : kWP xs lay d kc ks j pc L ((t + 4, n, x) :: st) G I Q := by
  intro X p l e R s m args below meth c H locs cells slots ls G0 F hc hs hz he hM hS hl hL hv
  obtain ⟨fx, fb, fml, fown, fret, flk, fini, fws, ffr, flo, ⟨fK, fN, fZ, fT⟩, fXs, fbs⟩ := id F
  obtain ⟨v0, hv⟩ := fmc hv
  refine W.objInit fx fb fown (fws _ hw1) (fws _ hw2) (fws _ hw3) rfl (hl.1.trans fml.symm) rfl hd (by omega) ?_ (h X p l e R s m args below meth c H locs cells slots ls G0 F hc hs hz he hM hS hl hL hv)
  have := kst_sum X st
  show 2 * 0 + _ + 12 ≤ R.locals
  omega
def kcpy (I : KI) (a sp b dp n : Int) : KI := fun a' k' => if a' = b ∧ dp ≤ k' ∧ k' < dp + n then I a (sp + (k' - dp)) else I a' k'
theorem kcell_cpy {X : KX} {G : KG} {I : KI} {b q : Nat} {a sp dp n : Int} (h : b ≠ q) : kcell X G (kcpy I a sp q dp n) b = kcell X G I b := by
  have e : ∀ j : Int, kcpy I a sp q dp n b j = I b j := fun j => by unfold kcpy; rw [if_neg (by omega)]
  unfold kcell kfv
  simp only [e]
theorem kr_copyi {xs : KS} {lay : Bool} {d kc ks j pc : Nat} {L : KL} {st : List KV} {G : KG} {I : KI} {Q : KQ} {idx n1 n2 n3 w1 w2 : Nat} {a b sp dp n : Int} (hd : decode (kMb j) pc = .ok (.invokestatic idx, 3)) (h0 : 0 ≤ sp) (h1 : 0 ≤ dp) (h2 : 0 ≤ n) (h3 : sp + n ≤ w1) (h4 : dp + n ≤ w2) (hst : st.length ≤ 4) (hw1 : Cond.methodLink (kMy j).cls idx arraycopyName ∈ kWords) (hw2 : Cond.native arraycopyName ∈ kWords) (hw3 : Cond.static arraycopyName ∈ kWords) (hw4 : Cond.initialized "java/lang/System" ∈ kWords) (h : kWP xs lay d kc ks j (pc + 3) L st G (kcpy I a sp b dp n) Q) : kWP xs lay d kc ks j pc L ((0, n3, n) :: (0, n2, dp) :: (4, w2, b) :: (0, n1, sp) :: (4, w1, a) :: st) G I Q := by
  intro X p l e R s m args below meth c H locs cells slots ls G0 F hc hs hz he hM hS hl hL hv
  obtain ⟨fx, fb, fml, fown, fret, flk, fini, fws, ffr, flo, ⟨fK, fN, fZ, fT⟩, fXs, fbs⟩ := id F
  obtain ⟨q, rfl, hq1, hq2, hq3⟩ := kvr (t := 0) (hv _ (List.mem_cons_of_mem _ (List.mem_cons_of_mem _ (List.mem_cons_of_mem _ (List.mem_cons_of_mem _ List.mem_cons_self)))))
  obtain ⟨r, rfl, hp1, hp2, hp3⟩ := kvr (t := 0) (hv _ (List.mem_cons_of_mem _ (List.mem_cons_of_mem _ List.mem_cons_self)))
  obtain ⟨v0, hv⟩ := fmc hv
  obtain ⟨v1, hv⟩ := fmc hv
  obtain ⟨v2, hv⟩ := fmc hv
  obtain ⟨v3, hv⟩ := fmc hv
  obtain ⟨v4, hv⟩ := fmc hv
  have hq3 := hq3 (by omega)
  have hp3 := hp3 (by omega)
  have hm1 : w1 < 2147483648 := by have := (hM.2.1 q hq1).2.2.1; omega
  have hm2 : w2 < 2147483648 := by have := (hM.2.1 r hp1).2.2.1; omega
  change W p l e R s m args below meth c H locs cells slots _ (F0 m pc ls (.int (Int32.ofInt n) :: .int (Int32.ofInt dp) :: .ref (X.1 + r) :: .int (Int32.ofInt sp) :: .ref (X.1 + q) :: st.map (kcv X)))
  have en : (Int32.ofInt n).toNatClampNeg = n.toNat := of32_nat h2 (by omega)
  have es : (Int32.ofInt sp).toNatClampNeg = sp.toNat := of32_nat h0 (by omega)
  have ed : (Int32.ofInt dp).toNatClampNeg = dp.toNat := of32_nat h1 (by omega)
  have nn : ∀ {z : Int}, 0 ≤ z → z < 2147483648 → ¬ Int32.ofInt z < 0 := fun {z} a1 a2 => by rw [Int32.lt_iff_toInt_lt, toInt_of32 (by omega) a2]; simp; omega
  have hfit : ∀ i : Nat, i < n.toNat → fits .int (.int (Int32.ofInt (I q (sp.toNat + i : Nat)))) = true := by
    intro i hi
    have hg := hM.2.2.1 q hq1 (sp.toNat + i) (by omega)
    rw [hq2] at hg
    rfl
  refine va_copyi (ty := .int) fx fb (fml.trans hl.1.symm) fown (fws _ hw1) (fws _ hw2) (fws _ hw3) (fws _ hw4) fK hM.1 (kws_D X G I) hS q r 0 0 (n0 := w1) (n1 := w2) (f := fun j => Int32.ofInt (I q j)) (g := fun j => Int32.ofInt (I r j)) (a0 := X.1 + q) (a := X.1 + r) ((kws_at X G I hq1).trans (by rw [kcell_i hq2 hq3 (by omega)])) ((kws_at X G I hp1).trans (by rw [kcell_i hp2 hp3 (by omega)])) rfl rfl rfl (nn h0 (by omega)) (nn h1 (by omega)) (nn h2 (by omega)) (by rw [en, es]; omega) (by rw [en, ed]; omega) (fun i hi => by rw [es]; rw [en] at hi; exact hfit i hi) (by omega) ?_ hd (fun H1 locs1 hP1 hD1 hS1 => ?_)
  · have := kst_sum X st
    have e7 : nativeFrameWords "java/lang/System" "arraycopy" 5 = 7 := by decide +kernel
    rw [e7]
    omega
  have hM1 : kSim X lay G (kcpy I q sp r dp n) H1 := by
    have hc : (va_cpy (fun j : Nat => Int32.ofInt (I q j)) (fun j : Nat => Int32.ofInt (I r j)) (Int32.ofInt sp).toNatClampNeg (Int32.ofInt dp).toNatClampNeg (Int32.ofInt n).toNatClampNeg) = (fun j : Nat => Int32.ofInt (kcpy I q sp r dp n r j)) := by
      funext j
      unfold va_cpy kcpy
      rw [en, es, ed]
      by_cases hj : dp.toNat ≤ j ∧ j < dp.toNat + n.toNat
      · rw [if_pos hj, if_pos ⟨rfl, by omega, by omega⟩]
        rw [show sp + ((j : Int) - dp) = ((sp.toNat + (j - dp.toNat) : Nat) : Int) by omega]
      · rw [if_neg hj, if_neg (by omega)]
    rw [hc, kws_set (G' := G) (I' := kcpy I q sp r dp n) rfl (fun b _ hb => kcell_cpy hb) (kcell_i hp2 hp3 (by omega))] at hP1
    refine ⟨hP1, hM.2.1, ?_, hM.2.2.2⟩
    intro a ha k hk
    by_cases hak : a = r ∧ dp ≤ k ∧ (k : Int) < dp + n
    · obtain ⟨rfl, hk1, hk2⟩ := hak
      have e8 : kcpy I q sp a dp n a k = I q (sp + (k - dp)) := by unfold kcpy; rw [if_pos ⟨rfl, hk1, hk2⟩]
      have hg := hM.2.2.1 q hq1 (sp + (k - dp)).toNat (by omega)
      rw [show (((sp + (k - dp)).toNat : Nat) : Int) = sp + (k - dp) by omega, hq2] at hg
      rw [e8, hp2]
      exact hg
    · have e8 : kcpy I q sp r dp n a k = I a k := by unfold kcpy; rw [if_neg (by omega)]
      rw [e8]
      exact hM.2.2.1 a ha k hk
  exact h X p l e R s m args below meth c H1 locs1 cells slots ls G0 F hc hs hz he hM1 hS1 hl hL hv
theorem kr_copyb {xs : KS} {lay : Bool} {d kc ks j pc : Nat} {L : KL} {st : List KV} {G : KG} {I : KI} {Q : KQ} {idx n1 n2 n3 w1 w2 : Nat} {a b sp dp n : Int} (hd : decode (kMb j) pc = .ok (.invokestatic idx, 3)) (h0 : 0 ≤ sp) (h1 : 0 ≤ dp) (h2 : 0 ≤ n) (h3 : sp + n ≤ w1) (h4 : dp + n ≤ w2) (hst : st.length ≤ 4) (hw1 : Cond.methodLink (kMy j).cls idx arraycopyName ∈ kWords) (hw2 : Cond.native arraycopyName ∈ kWords) (hw3 : Cond.static arraycopyName ∈ kWords) (hw4 : Cond.initialized "java/lang/System" ∈ kWords) (h : kWP xs lay d kc ks j (pc + 3) L st G (kcpy I a sp b dp n) Q) : kWP xs lay d kc ks j pc L ((0, n3, n) :: (0, n2, dp) :: (6, w2, b) :: (0, n1, sp) :: (6, w1, a) :: st) G I Q := by
  intro X p l e R s m args below meth c H locs cells slots ls G0 F hc hs hz he hM hS hl hL hv
  obtain ⟨fx, fb, fml, fown, fret, flk, fini, fws, ffr, flo, ⟨fK, fN, fZ, fT⟩, fXs, fbs⟩ := id F
  obtain ⟨q, rfl, hq1, hq2, hq3⟩ := kvr (t := 2) (hv _ (List.mem_cons_of_mem _ (List.mem_cons_of_mem _ (List.mem_cons_of_mem _ (List.mem_cons_of_mem _ List.mem_cons_self)))))
  obtain ⟨r, rfl, hp1, hp2, hp3⟩ := kvr (t := 2) (hv _ (List.mem_cons_of_mem _ (List.mem_cons_of_mem _ List.mem_cons_self)))
  obtain ⟨v0, hv⟩ := fmc hv
  obtain ⟨v1, hv⟩ := fmc hv
  obtain ⟨v2, hv⟩ := fmc hv
  obtain ⟨v3, hv⟩ := fmc hv
  obtain ⟨v4, hv⟩ := fmc hv
  have hq3 := hq3 (by omega)
  have hp3 := hp3 (by omega)
  have hm1 : w1 < 2147483648 := by have := (hM.2.1 q hq1).2.2.1; omega
  have hm2 : w2 < 2147483648 := by have := (hM.2.1 r hp1).2.2.1; omega
  change W p l e R s m args below meth c H locs cells slots _ (F0 m pc ls (.int (Int32.ofInt n) :: .int (Int32.ofInt dp) :: .ref (X.1 + r) :: .int (Int32.ofInt sp) :: .ref (X.1 + q) :: st.map (kcv X)))
  have en : (Int32.ofInt n).toNatClampNeg = n.toNat := of32_nat h2 (by omega)
  have es : (Int32.ofInt sp).toNatClampNeg = sp.toNat := of32_nat h0 (by omega)
  have ed : (Int32.ofInt dp).toNatClampNeg = dp.toNat := of32_nat h1 (by omega)
  have nn : ∀ {z : Int}, 0 ≤ z → z < 2147483648 → ¬ Int32.ofInt z < 0 := fun {z} a1 a2 => by rw [Int32.lt_iff_toInt_lt, toInt_of32 (by omega) a2]; simp; omega
  have hfit : ∀ i : Nat, i < n.toNat → fits .byte (.int (Int32.ofInt (I q (sp.toNat + i : Nat)))) = true := by
    intro i hi
    have hg := hM.2.2.1 q hq1 (sp.toNat + i) (by omega)
    rw [hq2] at hg
    have hg : -128 ≤ I q ((sp.toNat + i : Nat) : Int) ∧ I q ((sp.toNat + i : Nat) : Int) ≤ 127 := hg
    have a1 : (-128 : Int32) ≤ Int32.ofInt (I q ((sp.toNat + i : Nat) : Int)) := (of32_le (x := -128) (by decide) (by decide) (by omega) (by omega)).mpr hg.1
    have a2 : Int32.ofInt (I q ((sp.toNat + i : Nat) : Int)) ≤ (127 : Int32) := (of32_le (y := 127) (by omega) (by omega) (by decide) (by decide)).mpr hg.2
    show fits .byte (.int (Int32.ofInt (I q ((sp.toNat + i : Nat) : Int)))) = true
    simp only [fits, a1, a2, decide_true, Bool.and_self]
  refine va_copyi (ty := .byte) fx fb (fml.trans hl.1.symm) fown (fws _ hw1) (fws _ hw2) (fws _ hw3) (fws _ hw4) fK hM.1 (kws_D X G I) hS q r 2 2 (n0 := w1) (n1 := w2) (f := fun j => Int32.ofInt (I q j)) (g := fun j => Int32.ofInt (I r j)) (a0 := X.1 + q) (a := X.1 + r) ((kws_at X G I hq1).trans (by rw [kcell_i hq2 hq3 (by omega)])) ((kws_at X G I hp1).trans (by rw [kcell_i hp2 hp3 (by omega)])) rfl rfl rfl (nn h0 (by omega)) (nn h1 (by omega)) (nn h2 (by omega)) (by rw [en, es]; omega) (by rw [en, ed]; omega) (fun i hi => by rw [es]; rw [en] at hi; exact hfit i hi) (by omega) ?_ hd (fun H1 locs1 hP1 hD1 hS1 => ?_)
  · have := kst_sum X st
    have e7 : nativeFrameWords "java/lang/System" "arraycopy" 5 = 7 := by decide +kernel
    rw [e7]
    omega
  have hM1 : kSim X lay G (kcpy I q sp r dp n) H1 := by
    have hc : (va_cpy (fun j : Nat => Int32.ofInt (I q j)) (fun j : Nat => Int32.ofInt (I r j)) (Int32.ofInt sp).toNatClampNeg (Int32.ofInt dp).toNatClampNeg (Int32.ofInt n).toNatClampNeg) = (fun j : Nat => Int32.ofInt (kcpy I q sp r dp n r j)) := by
      funext j
      unfold va_cpy kcpy
      rw [en, es, ed]
      by_cases hj : dp.toNat ≤ j ∧ j < dp.toNat + n.toNat
      · rw [if_pos hj, if_pos ⟨rfl, by omega, by omega⟩]
        rw [show sp + ((j : Int) - dp) = ((sp.toNat + (j - dp.toNat) : Nat) : Int) by omega]
      · rw [if_neg hj, if_neg (by omega)]
    rw [hc, kws_set (G' := G) (I' := kcpy I q sp r dp n) rfl (fun b _ hb => kcell_cpy hb) (kcell_i hp2 hp3 (by omega))] at hP1
    refine ⟨hP1, hM.2.1, ?_, hM.2.2.2⟩
    intro a ha k hk
    by_cases hak : a = r ∧ dp ≤ k ∧ (k : Int) < dp + n
    · obtain ⟨rfl, hk1, hk2⟩ := hak
      have e8 : kcpy I q sp a dp n a k = I q (sp + (k - dp)) := by unfold kcpy; rw [if_pos ⟨rfl, hk1, hk2⟩]
      have hg := hM.2.2.1 q hq1 (sp + (k - dp)).toNat (by omega)
      rw [show (((sp + (k - dp)).toNat : Nat) : Int) = sp + (k - dp) by omega, hq2] at hg
      rw [e8, hp2]
      exact hg
    · have e8 : kcpy I q sp r dp n a k = I a k := by unfold kcpy; rw [if_neg (by omega)]
      rw [e8]
      exact hM.2.2.1 a ha k hk
  exact h X p l e R s m args below meth c H1 locs1 cells slots ls G0 F hc hs hz he hM1 hS1 hl hL hv
theorem kr_copyl {xs : KS} {lay : Bool} {d kc ks j pc : Nat} {L : KL} {st : List KV} {G : KG} {I : KI} {Q : KQ} {idx n1 n2 n3 w1 w2 : Nat} {a b sp dp n : Int} (hd : decode (kMb j) pc = .ok (.invokestatic idx, 3)) (h0 : 0 ≤ sp) (h1 : 0 ≤ dp) (h2 : 0 ≤ n) (h3 : sp + n ≤ w1) (h4 : dp + n ≤ w2) (hst : st.length ≤ 4) (hw1 : Cond.methodLink (kMy j).cls idx arraycopyName ∈ kWords) (hw2 : Cond.native arraycopyName ∈ kWords) (hw3 : Cond.static arraycopyName ∈ kWords) (hw4 : Cond.initialized "java/lang/System" ∈ kWords) (h : kWP xs lay d kc ks j (pc + 3) L st G (kcpy I a sp b dp n) Q) : kWP xs lay d kc ks j pc L ((0, n3, n) :: (0, n2, dp) :: (5, w2, b) :: (0, n1, sp) :: (5, w1, a) :: st) G I Q := by
  intro X p l e R s m args below meth c H locs cells slots ls G0 F hc hs hz he hM hS hl hL hv
  obtain ⟨fx, fb, fml, fown, fret, flk, fini, fws, ffr, flo, ⟨fK, fN, fZ, fT⟩, fXs, fbs⟩ := id F
  obtain ⟨q, rfl, hq1, hq2, hq3⟩ := kvr (t := 1) (hv _ (List.mem_cons_of_mem _ (List.mem_cons_of_mem _ (List.mem_cons_of_mem _ (List.mem_cons_of_mem _ List.mem_cons_self)))))
  obtain ⟨r, rfl, hp1, hp2, hp3⟩ := kvr (t := 1) (hv _ (List.mem_cons_of_mem _ (List.mem_cons_of_mem _ List.mem_cons_self)))
  obtain ⟨v0, hv⟩ := fmc hv
  obtain ⟨v1, hv⟩ := fmc hv
  obtain ⟨v2, hv⟩ := fmc hv
  obtain ⟨v3, hv⟩ := fmc hv
  obtain ⟨v4, hv⟩ := fmc hv
  have hq3 := hq3 (by omega)
  have hp3 := hp3 (by omega)
  have hm1 : w1 < 2147483648 := by have := (hM.2.1 q hq1).2.2.1; omega
  have hm2 : w2 < 2147483648 := by have := (hM.2.1 r hp1).2.2.1; omega
  change W p l e R s m args below meth c H locs cells slots _ (F0 m pc ls (.int (Int32.ofInt n) :: .int (Int32.ofInt dp) :: .ref (X.1 + r) :: .int (Int32.ofInt sp) :: .ref (X.1 + q) :: st.map (kcv X)))
  have en : (Int32.ofInt n).toNatClampNeg = n.toNat := of32_nat h2 (by omega)
  have es : (Int32.ofInt sp).toNatClampNeg = sp.toNat := of32_nat h0 (by omega)
  have ed : (Int32.ofInt dp).toNatClampNeg = dp.toNat := of32_nat h1 (by omega)
  have nn : ∀ {z : Int}, 0 ≤ z → z < 2147483648 → ¬ Int32.ofInt z < 0 := fun {z} a1 a2 => by rw [Int32.lt_iff_toInt_lt, toInt_of32 (by omega) a2]; simp; omega
  have hfit : ∀ i : Nat, i < n.toNat → fits .long (.long (Int64.ofInt (I q (sp.toNat + i : Nat)))) = true := by
    intro i hi
    have hg := hM.2.2.1 q hq1 (sp.toNat + i) (by omega)
    rw [hq2] at hg
    rfl
  refine va_copyl (ty := .long) fx fb (fml.trans hl.1.symm) fown (fws _ hw1) (fws _ hw2) (fws _ hw3) (fws _ hw4) fK hM.1 (kws_D X G I) hS q r 1 1 (n0 := w1) (n1 := w2) (f := fun j => Int64.ofInt (I q j)) (g := fun j => Int64.ofInt (I r j)) (a0 := X.1 + q) (a := X.1 + r) ((kws_at X G I hq1).trans (by rw [kcell_l hq2 hq3])) ((kws_at X G I hp1).trans (by rw [kcell_l hp2 hp3])) rfl rfl rfl (nn h0 (by omega)) (nn h1 (by omega)) (nn h2 (by omega)) (by rw [en, es]; omega) (by rw [en, ed]; omega) (fun i hi => by rw [es]; rw [en] at hi; exact hfit i hi) (by omega) ?_ hd (fun H1 locs1 hP1 hD1 hS1 => ?_)
  · have := kst_sum X st
    have e7 : nativeFrameWords "java/lang/System" "arraycopy" 5 = 7 := by decide +kernel
    rw [e7]
    omega
  have hM1 : kSim X lay G (kcpy I q sp r dp n) H1 := by
    have hc : (va_cpy (fun j : Nat => Int64.ofInt (I q j)) (fun j : Nat => Int64.ofInt (I r j)) (Int32.ofInt sp).toNatClampNeg (Int32.ofInt dp).toNatClampNeg (Int32.ofInt n).toNatClampNeg) = (fun j : Nat => Int64.ofInt (kcpy I q sp r dp n r j)) := by
      funext j
      unfold va_cpy kcpy
      rw [en, es, ed]
      by_cases hj : dp.toNat ≤ j ∧ j < dp.toNat + n.toNat
      · rw [if_pos hj, if_pos ⟨rfl, by omega, by omega⟩]
        rw [show sp + ((j : Int) - dp) = ((sp.toNat + (j - dp.toNat) : Nat) : Int) by omega]
      · rw [if_neg hj, if_neg (by omega)]
    rw [hc, kws_set (G' := G) (I' := kcpy I q sp r dp n) rfl (fun b _ hb => kcell_cpy hb) (kcell_l hp2 hp3)] at hP1
    refine ⟨hP1, hM.2.1, ?_, hM.2.2.2⟩
    intro a ha k hk
    by_cases hak : a = r ∧ dp ≤ k ∧ (k : Int) < dp + n
    · obtain ⟨rfl, hk1, hk2⟩ := hak
      have e8 : kcpy I q sp a dp n a k = I q (sp + (k - dp)) := by unfold kcpy; rw [if_pos ⟨rfl, hk1, hk2⟩]
      have hg := hM.2.2.1 q hq1 (sp + (k - dp)).toNat (by omega)
      rw [show (((sp + (k - dp)).toNat : Nat) : Int) = sp + (k - dp) by omega, hq2] at hg
      rw [e8, hp2]
      exact hg
    · have e8 : kcpy I q sp r dp n a k = I a k := by unfold kcpy; rw [if_neg (by omega)]
      rw [e8]
      exact hM.2.2.1 a ha k hk
  exact h X p l e R s m args below meth c H1 locs1 cells slots ls G0 F hc hs hz he hM1 hS1 hl hL hv
theorem kr_mmax {xs : KS} {lay : Bool} {d kc ks j pc : Nat} {L : KL} {st : List KV} {G : KG} {I : KI} {Q : KQ} {idx n n2 : Nat} {x y : Int} (hd : decode (kMb j) pc = .ok (.invokestatic idx, 3)) (hst : st.length ≤ 4) (hw1 : Cond.methodLink (kMy j).cls idx Lib.Math.max.name ∈ kWords) (hw2 : Cond.static Lib.Math.max.name ∈ kWords) (hw3 : Cond.initialized "java/lang/Math" ∈ kWords) (hw4 : Cond.code Lib.Math.max.name Lib.Math.max.code 2 (some .int) ∈ kWords) (h : kWP xs lay d kc ks j (pc + 3) L ((0, 0, (if x < y then y else x)) :: st) G I Q) : kWP xs lay d kc ks j pc L ((0, n, y) :: (0, n2, x) :: st) G I Q := by
  intro X p l e R s m args below meth c H locs cells slots ls G0 F hc hs hz he hM hS hl hL hv
  obtain ⟨fx, fb, fml, fown, fret, flk, fini, fws, ffr, flo, ⟨fK, fN, fZ, fT⟩, fXs, fbs⟩ := id F
  obtain ⟨v0, hv⟩ := fmc hv
  obtain ⟨v1, hv⟩ := fmc hv
  refine va_mmax fx fb (fml.trans hl.1.symm) fown (fws _ hw1) (fws _ hw2) (fws _ hw3) (fws _ hw4) (by omega) (by have := kst_sum X st; omega) (by omega) (by omega) hd ?_
  have e9 : (if Int32.ofInt x < Int32.ofInt y then Int32.ofInt y else Int32.ofInt x) = Int32.ofInt (if x < y then y else x) := by
    by_cases c1 : x < y
    · rw [if_pos c1, if_pos ((of32_lt v1.1 v1.2 v0.1 v0.2).mpr c1)]
    · rw [if_neg c1, if_neg (fun z => c1 ((of32_lt v1.1 v1.2 v0.1 v0.2).mp z))]
  rw [e9]
  refine h X p l e R s m args below meth c H locs cells slots ls G0 F hc hs hz he hM hS hl hL (fmk ?_ hv)
  by_cases c1 : x < y
  · rw [if_pos c1]; exact v0
  · rw [if_neg c1]; exact v1
theorem kr_mmin {xs : KS} {lay : Bool} {d kc ks j pc : Nat} {L : KL} {st : List KV} {G : KG} {I : KI} {Q : KQ} {idx n n2 : Nat} {x y : Int} (hd : decode (kMb j) pc = .ok (.invokestatic idx, 3)) (hst : st.length ≤ 4) (hw1 : Cond.methodLink (kMy j).cls idx Lib.Math.min.name ∈ kWords) (hw2 : Cond.static Lib.Math.min.name ∈ kWords) (hw3 : Cond.initialized "java/lang/Math" ∈ kWords) (hw4 : Cond.code Lib.Math.min.name Lib.Math.min.code 2 (some .int) ∈ kWords) (h : kWP xs lay d kc ks j (pc + 3) L ((0, 0, (if y < x then y else x)) :: st) G I Q) : kWP xs lay d kc ks j pc L ((0, n, y) :: (0, n2, x) :: st) G I Q := by
  intro X p l e R s m args below meth c H locs cells slots ls G0 F hc hs hz he hM hS hl hL hv
  obtain ⟨fx, fb, fml, fown, fret, flk, fini, fws, ffr, flo, ⟨fK, fN, fZ, fT⟩, fXs, fbs⟩ := id F
  obtain ⟨v0, hv⟩ := fmc hv
  obtain ⟨v1, hv⟩ := fmc hv
  refine va_mmin fx fb (fml.trans hl.1.symm) fown (fws _ hw1) (fws _ hw2) (fws _ hw3) (fws _ hw4) (by omega) (by have := kst_sum X st; omega) (by omega) (by omega) hd ?_
  have e9 : (if Int32.ofInt y < Int32.ofInt x then Int32.ofInt y else Int32.ofInt x) = Int32.ofInt (if y < x then y else x) := by
    by_cases c1 : y < x
    · rw [if_pos c1, if_pos ((of32_lt v0.1 v0.2 v1.1 v1.2).mpr c1)]
    · rw [if_neg c1, if_neg (fun z => c1 ((of32_lt v0.1 v0.2 v1.1 v1.2).mp z))]
  rw [e9]
  refine h X p l e R s m args below meth c H locs cells slots ls G0 F hc hs hz he hM hS hl hL (fmk ?_ hv)
  by_cases c1 : y < x
  · rw [if_pos c1]; exact v0
  · rw [if_neg c1]; exact v1
theorem kr_mabs {xs : KS} {lay : Bool} {d kc ks j pc : Nat} {L : KL} {st : List KV} {G : KG} {I : KI} {Q : KQ} {idx n : Nat} {x : Int} (hd : decode (kMb j) pc = .ok (.invokestatic idx, 3)) (hst : st.length ≤ 4) (hw1 : Cond.methodLink (kMy j).cls idx Lib.Math.abs.name ∈ kWords) (hw2 : Cond.static Lib.Math.abs.name ∈ kWords) (hw3 : Cond.initialized "java/lang/Math" ∈ kWords) (hw4 : Cond.code Lib.Math.abs.name Lib.Math.abs.code 1 (some .int) ∈ kWords) (h : kWP xs lay d kc ks j (pc + 3) L ((0, 0, w32 (if 0 ≤ x then x else 0 - x)) :: st) G I Q) : kWP xs lay d kc ks j pc L ((0, n, x) :: st) G I Q := by
  intro X p l e R s m args below meth c H locs cells slots ls G0 F hc hs hz he hM hS hl hL hv
  obtain ⟨fx, fb, fml, fown, fret, flk, fini, fws, ffr, flo, ⟨fK, fN, fZ, fT⟩, fXs, fbs⟩ := id F
  obtain ⟨v0, hv⟩ := fmc hv
  refine va_mabs fx fb (fml.trans hl.1.symm) fown (fws _ hw1) (fws _ hw2) (fws _ hw3) (fws _ hw4) (by omega) (by have := kst_sum X st; omega) (by omega) (by omega) hd ?_
  have e9 : (if 0 ≤ Int32.ofInt x then Int32.ofInt x else 0 - Int32.ofInt x) = Int32.ofInt (w32 (if 0 ≤ x then x else 0 - x)) := by
    have hz0 : (0 : Int32) = Int32.ofInt 0 := rfl
    rw [ofInt_w32, hz0]
    by_cases c1 : 0 ≤ x
    · rw [if_pos c1, if_pos ((of32_le (by decide) (by decide) v0.1 v0.2).mpr c1)]
    · rw [if_neg c1, if_neg (fun z => c1 ((of32_le (by decide) (by decide) v0.1 v0.2).mp z)), Int32.ofInt_sub]
  rw [e9]
  exact h X p l e R s m args below meth c H locs cells slots ls G0 F hc hs hz he hM hS hl hL (fmk ⟨w32_lo _, w32_hi _⟩ hv)
