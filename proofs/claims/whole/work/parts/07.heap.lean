/-! THE RULES OF THE HEAP -/
def kst (I : KI) (a k v : Int) : KI := fun a' k' => if a' = a ∧ k' = k then v else I a' k'
theorem kws_set {X : KX} {G G' : KG} {I I' : KI} {q : Nat} {e : va_E} (hn : G'.1 = G.1) (ho : ∀ b : Nat, b < G.1 → b ≠ q → kcell X G' I' b = kcell X G I b) (he : kcell X G' I' q = e) : (kws X G I).set q (X.1 + q, e) = kws X G' I' := by
  apply List.ext_getElem?
  intro k
  by_cases hk : k < G.1
  · rw [kws_at X G' I' (by omega)]
    by_cases hq : k = q
    · subst hq
      rw [List.getElem?_set_self (by rw [kws_len]; exact hk), he]
    · rw [List.getElem?_set_ne (Ne.symm hq), kws_at X G I hk, ho k hk hq]
  · rw [List.getElem?_eq_none (by rw [List.length_set, kws_len]; omega), List.getElem?_eq_none (by rw [kws_len]; omega)]
theorem kcell_i {X : KX} {G : KG} {I : KI} {a : Int} {t n : Nat} (ht : (G.2.1 a).1 = t) (hn : (G.2.1 a).2 = n) (h4 : t = 4 ∨ t = 6 ∨ t = 7) : kcell X G I a = .inl (X.2.2.1 t, n, .inl (fun j => Int32.ofInt (I a j))) := by
  unfold kcell
  rw [ht, hn, if_neg (by omega), if_neg (by omega), if_pos (by omega)]
theorem kcell_l {X : KX} {G : KG} {I : KI} {a : Int} {n : Nat} (ht : (G.2.1 a).1 = 5) (hn : (G.2.1 a).2 = n) : kcell X G I a = .inl (X.2.2.1 5, n, .inr (.inl (fun j => Int64.ofInt (I a j)))) := by
  unfold kcell
  rw [ht, hn, if_neg (by omega), if_pos rfl]
theorem kcell_q {X : KX} {G : KG} {I : KI} {a : Int} {t n : Nat} (ht : (G.2.1 a).1 = t) (hn : (G.2.1 a).2 = n) (h4 : t = 8 ∨ t = 9) : kcell X G I a = .inl (X.2.2.1 t, n, .inr (.inr (.inr (.inr (fun j => krf X (G.2.2 a j)))))) := by
  unfold kcell
  rw [ht, hn, if_neg (by omega), if_neg (by omega), if_neg (by omega)]
theorem kcell_o {X : KX} {G : KG} {I : KI} {a : Int} {ci : Nat} (ht : (G.2.1 a).1 = 10 + ci) : kcell X G I a = .inr (ci, (List.range (G.2.1 a).2).map (fun k => kfv X G I a ci k)) := by
  unfold kcell
  rw [ht, if_pos (by omega), show 10 + ci - 10 = ci by omega]
theorem kcell_st {X : KX} {G : KG} {I : KI} {b q : Nat} {k v : Int} (h : b ≠ q) : kcell X G (kst I q k v) b = kcell X G I b := by
  have e : ∀ j : Int, kst I q k v b j = I b j := fun j => by unfold kst; rw [if_neg (by omega)]
  unfold kcell kfv
  simp only [e]
theorem kMem.st {G : KG} {I : KI} {q k : Nat} {v : Int} (h : kMem G I) (hg : kgood G (kek (G.2.1 q).1 k) v (G.2.2 q k)) : kMem G (kst I q k v) := by
  intro a ha j hj
  by_cases hq : a = q ∧ j = k
  · obtain ⟨rfl, rfl⟩ := hq
    unfold kst
    rw [if_pos ⟨rfl, rfl⟩]
    exact hg
  · unfold kst
    rw [if_neg (by omega)]
    exact h a ha j hj
theorem kSim.st {X : KX} {lay : Bool} {G : KG} {I : KI} {H H1 : Heap} {q k : Nat} {v : Int} {e : va_E} (h : kSim X lay G I H) (hP : va_P X.2.1 kcl ((kws X G I).set q (X.1 + q, e)) H1) (he : kcell X G (kst I q k v) q = e) (hg : kgood G (kek (G.2.1 q).1 k) v (G.2.2 q k)) : kSim X lay G (kst I q k v) H1 := by
  rw [kws_set rfl (fun b _ hb => kcell_st hb) he] at hP
  exact ⟨hP, h.2.1, h.2.2.1.st hg, h.2.2.2⟩
theorem kvr {G : KG} {t n : Nat} {a : Int} (h : kval G (t + 4, n, a)) : ∃ q : Nat, a = q ∧ q < G.1 ∧ (G.2.1 q).1 = t + 4 ∧ (t + 4 < 10 → (G.2.1 q).2 = n) := by
  have h : 0 ≤ a ∧ a < G.1 ∧ (G.2.1 a).1 = t + 4 ∧ (t + 4 < 10 → (G.2.1 a).2 = n) := h
  obtain ⟨h1, h2, h3, h4⟩ := h
  refine ⟨a.toNat, by omega, by omega, ?_, ?_⟩
  · rw [show ((a.toNat : Nat) : Int) = a by omega]; exact h3
  · rw [show ((a.toNat : Nat) : Int) = a by omega]; exact h4
theorem upd_i {I : KI} {q : Nat} {i v : Int} (h0 : 0 ≤ i) (h1 : i < 2147483648) : (upd (fun j => Int32.ofInt (I q j)) (Int32.ofInt i).toNatClampNeg (Int32.ofInt v)) = (fun j : Nat => Int32.ofInt (kst I q i v q j)) := by
  funext j
  unfold upd kst
  rw [of32_nat h0 h1]
  by_cases hj : j = i.toNat
  · rw [if_pos hj, if_pos ⟨rfl, by omega⟩]
  · rw [if_neg hj, if_neg (by omega)]
theorem upd_l {I : KI} {q : Nat} {i v : Int} (h0 : 0 ≤ i) (h1 : i < 2147483648) : (vp_updL (fun j => Int64.ofInt (I q j)) (Int32.ofInt i).toNatClampNeg (Int64.ofInt v)) = (fun j : Nat => Int64.ofInt (kst I q i v q j)) := by
  funext j
  unfold vp_updL kst
  rw [of32_nat h0 h1]
  by_cases hj : j = i.toNat
  · rw [if_pos hj, if_pos ⟨rfl, by omega⟩]
  · rw [if_neg hj, if_neg (by omega)]
theorem kr_iald {xs : KS} {lay : Bool} {d kc ks j pc : Nat} {L : KL} {st : List KV} {G : KG} {I : KI} {Q : KQ} {n n2 : Nat} {a i : Int} (hd : decode (kMb j) pc = .ok (.iaload, 1)) (h0 : 0 ≤ i) (hi : i < n) (h : kWP xs lay d kc ks j (pc + 1) L ((0, 0, I a i) :: st) G I Q) : kWP xs lay d kc ks j pc L ((0, n2, i) :: (4, n, a) :: st) G I Q := by
  intro X p l e R s m args below meth c H locs cells slots ls G0 F hc hs hz he hM hS hl hL hv
  obtain ⟨fx, fb, fml, fown, fret, flk, fini, fws, ffr, flo, ⟨fK, fN, fZ, fT⟩, fXs, fbs⟩ := id F
  obtain ⟨q, rfl, hq1, hq2, hq3⟩ := kvr (t := 0) (hv _ (List.mem_cons_of_mem _ List.mem_cons_self))
  obtain ⟨v1, hv⟩ := fmc hv
  obtain ⟨v2, hv⟩ := fmc hv
  have hq3 := hq3 (by omega)
  change W p l e R s m args below meth c H locs cells slots _ (F0 m pc ls (.int (Int32.ofInt i) :: .ref (X.1 + q) :: st.map (kcv X)))
  have hn : n < 2147483648 := by have := (hM.2.1 q hq1).2.2.1; omega
  refine va_iald fx fb fK hM.1 q 0 (n := n) (f := fun j => Int32.ofInt (I q j)) (a := X.1 + q) ((kws_at X G I hq1).trans (by rw [kcell_i hq2 hq3 (by omega)])) rfl (of32_in h0 (by omega) hi) hd ?_
  have hg := hM.2.2.1 q hq1 i.toNat (by omega)
  rw [hq2] at hg
  rw [show ((i.toNat : Nat) : Int) = i by omega] at hg
  have hg : -2147483648 ≤ I q i ∧ I q i < 2147483648 := hg
  simp only [of32_nat h0 (by omega : i < 2147483648)]
  rw [show ((i.toNat : Nat) : Int) = i by omega]
  refine h X p l e R s m args below meth c H locs cells slots ls G0 F hc hs hz he hM hS hl hL (fmk ?_ hv)
  show -2147483648 ≤ I q i ∧ I q i < 2147483648
  omega
theorem kr_bald {xs : KS} {lay : Bool} {d kc ks j pc : Nat} {L : KL} {st : List KV} {G : KG} {I : KI} {Q : KQ} {n n2 : Nat} {a i : Int} (hd : decode (kMb j) pc = .ok (.baload, 1)) (h0 : 0 ≤ i) (hi : i < n) (h : kWP xs lay d kc ks j (pc + 1) L ((0, 0, I a i) :: st) G I Q) : kWP xs lay d kc ks j pc L ((0, n2, i) :: (6, n, a) :: st) G I Q := by
  intro X p l e R s m args below meth c H locs cells slots ls G0 F hc hs hz he hM hS hl hL hv
  obtain ⟨fx, fb, fml, fown, fret, flk, fini, fws, ffr, flo, ⟨fK, fN, fZ, fT⟩, fXs, fbs⟩ := id F
  obtain ⟨q, rfl, hq1, hq2, hq3⟩ := kvr (t := 2) (hv _ (List.mem_cons_of_mem _ List.mem_cons_self))
  obtain ⟨v1, hv⟩ := fmc hv
  obtain ⟨v2, hv⟩ := fmc hv
  have hq3 := hq3 (by omega)
  change W p l e R s m args below meth c H locs cells slots _ (F0 m pc ls (.int (Int32.ofInt i) :: .ref (X.1 + q) :: st.map (kcv X)))
  have hn : n < 2147483648 := by have := (hM.2.1 q hq1).2.2.1; omega
  refine va_bald fx fb fK hM.1 q 2 (n := n) (f := fun j => Int32.ofInt (I q j)) (a := X.1 + q) ((kws_at X G I hq1).trans (by rw [kcell_i hq2 hq3 (by omega)])) rfl (of32_in h0 (by omega) hi) hd ?_
  have hg := hM.2.2.1 q hq1 i.toNat (by omega)
  rw [hq2] at hg
  rw [show ((i.toNat : Nat) : Int) = i by omega] at hg
  have hg : -128 ≤ I q i ∧ I q i ≤ 127 := hg
  simp only [of32_nat h0 (by omega : i < 2147483648)]
  rw [show ((i.toNat : Nat) : Int) = i by omega]
  refine h X p l e R s m args below meth c H locs cells slots ls G0 F hc hs hz he hM hS hl hL (fmk ?_ hv)
  show -2147483648 ≤ I q i ∧ I q i < 2147483648
  omega
theorem kr_zald {xs : KS} {lay : Bool} {d kc ks j pc : Nat} {L : KL} {st : List KV} {G : KG} {I : KI} {Q : KQ} {n n2 : Nat} {a i : Int} (hd : decode (kMb j) pc = .ok (.baload, 1)) (h0 : 0 ≤ i) (hi : i < n) (h : kWP xs lay d kc ks j (pc + 1) L ((0, 0, I a i) :: st) G I Q) : kWP xs lay d kc ks j pc L ((0, n2, i) :: (7, n, a) :: st) G I Q := by
  intro X p l e R s m args below meth c H locs cells slots ls G0 F hc hs hz he hM hS hl hL hv
  obtain ⟨fx, fb, fml, fown, fret, flk, fini, fws, ffr, flo, ⟨fK, fN, fZ, fT⟩, fXs, fbs⟩ := id F
  obtain ⟨q, rfl, hq1, hq2, hq3⟩ := kvr (t := 3) (hv _ (List.mem_cons_of_mem _ List.mem_cons_self))
  obtain ⟨v1, hv⟩ := fmc hv
  obtain ⟨v2, hv⟩ := fmc hv
  have hq3 := hq3 (by omega)
  change W p l e R s m args below meth c H locs cells slots _ (F0 m pc ls (.int (Int32.ofInt i) :: .ref (X.1 + q) :: st.map (kcv X)))
  have hn : n < 2147483648 := by have := (hM.2.1 q hq1).2.2.1; omega
  refine va_zald fx fb fK hM.1 q 3 (n := n) (f := fun j => Int32.ofInt (I q j)) (a := X.1 + q) ((kws_at X G I hq1).trans (by rw [kcell_i hq2 hq3 (by omega)])) rfl (of32_in h0 (by omega) hi) hd ?_
  have hg := hM.2.2.1 q hq1 i.toNat (by omega)
  rw [hq2] at hg
  rw [show ((i.toNat : Nat) : Int) = i by omega] at hg
  have hg : 0 ≤ I q i ∧ I q i ≤ 1 := hg
  simp only [of32_nat h0 (by omega : i < 2147483648)]
  rw [show ((i.toNat : Nat) : Int) = i by omega]
  refine h X p l e R s m args below meth c H locs cells slots ls G0 F hc hs hz he hM hS hl hL (fmk ?_ hv)
  show -2147483648 ≤ I q i ∧ I q i < 2147483648
  omega
theorem kr_lald {xs : KS} {lay : Bool} {d kc ks j pc : Nat} {L : KL} {st : List KV} {G : KG} {I : KI} {Q : KQ} {n n2 : Nat} {a i : Int} (hd : decode (kMb j) pc = .ok (.laload, 1)) (h0 : 0 ≤ i) (hi : i < n) (h : kWP xs lay d kc ks j (pc + 1) L ((1, 0, I a i) :: st) G I Q) : kWP xs lay d kc ks j pc L ((0, n2, i) :: (5, n, a) :: st) G I Q := by
  intro X p l e R s m args below meth c H locs cells slots ls G0 F hc hs hz he hM hS hl hL hv
  obtain ⟨fx, fb, fml, fown, fret, flk, fini, fws, ffr, flo, ⟨fK, fN, fZ, fT⟩, fXs, fbs⟩ := id F
  obtain ⟨q, rfl, hq1, hq2, hq3⟩ := kvr (t := 1) (hv _ (List.mem_cons_of_mem _ List.mem_cons_self))
  obtain ⟨v1, hv⟩ := fmc hv
  obtain ⟨v2, hv⟩ := fmc hv
  have hq3 := hq3 (by omega)
  change W p l e R s m args below meth c H locs cells slots _ (F0 m pc ls (.int (Int32.ofInt i) :: .ref (X.1 + q) :: st.map (kcv X)))
  have hn : n < 2147483648 := by have := (hM.2.1 q hq1).2.2.1; omega
  refine va_lald fx fb fK hM.1 q 1 (n := n) (f := fun j => Int64.ofInt (I q j)) (a := X.1 + q) ((kws_at X G I hq1).trans (by rw [kcell_l hq2 hq3])) rfl (of32_in h0 (by omega) hi) hd ?_
  have hg := hM.2.2.1 q hq1 i.toNat (by omega)
  rw [hq2] at hg
  rw [show ((i.toNat : Nat) : Int) = i by omega] at hg
  have hg : -9223372036854775808 ≤ I q i ∧ I q i < 9223372036854775808 := hg
  simp only [of32_nat h0 (by omega : i < 2147483648)]
  rw [show ((i.toNat : Nat) : Int) = i by omega]
  exact h X p l e R s m args below meth c H locs cells slots ls G0 F hc hs hz he hM hS hl hL (fmk hg hv)
theorem kr_sald {xs : KS} {lay : Bool} {d kc ks j pc : Nat} {L : KL} {st : List KV} {G : KG} {I : KI} {Q : KQ} {n n2 : Nat} {a i : Int} (hd : decode (kMb j) pc = .ok (.iaload, 1)) (h0 : 0 ≤ i) (hi : i < (xs a.toNat).1) (h : kWP xs lay d kc ks j (pc + 1) L ((0, 0, (xs a.toNat).2 i) :: st) G I Q) : kWP xs lay d kc ks j pc L ((0, n2, i) :: (3, n, a) :: st) G I Q := by
  intro X p l e R s m args below meth c H locs cells slots ls G0 F hc hs hz he hM hS hl hL hv
  obtain ⟨fx, fb, fml, fown, fret, flk, fini, fws, ffr, flo, ⟨fK, fN, fZ, fT⟩, fXs, fbs⟩ := id F
  obtain ⟨v1, hv⟩ := fmc hv
  obtain ⟨v2, hv⟩ := fmc hv
  have v2 : 0 ≤ a ∧ a < 4 := v2
  have hx := fXs a.toNat (by omega)
  change W p l e R s m args below meth c H locs cells slots _ (F0 m pc ls (.int (Int32.ofInt i) :: .ref (X.2.2.2 a.toNat) :: st.map (kcv X)))
  refine va_ti (v := .int (Int32.ofInt ((xs a.toNat).2 i))) fx fb (fT a.toNat (by omega)) hS (of32_in h0 (by omega) hi) ?_ hd ?_
  · simp only [of32_nat h0 (by omega : i < 2147483648)]
    rw [show ((i.toNat : Nat) : Int) = i by omega]
  have h2 := hx.2 i.toNat (by omega)
  rw [show ((i.toNat : Nat) : Int) = i by omega] at h2
  exact h X p l e R s m args below meth c H locs cells slots ls G0 F hc hs hz he hM hS hl hL (fmk h2 hv)
theorem kr_slen {xs : KS} {lay : Bool} {d kc ks j pc : Nat} {L : KL} {st : List KV} {G : KG} {I : KI} {Q : KQ} {n : Nat} {a : Int} (hd : decode (kMb j) pc = .ok (.arraylength, 1)) (h : kWP xs lay d kc ks j (pc + 1) L ((0, 0, ((xs a.toNat).1 : Int)) :: st) G I Q) : kWP xs lay d kc ks j pc L ((3, n, a) :: st) G I Q := by
  intro X p l e R s m args below meth c H locs cells slots ls G0 F hc hs hz he hM hS hl hL hv
  obtain ⟨fx, fb, fml, fown, fret, flk, fini, fws, ffr, flo, ⟨fK, fN, fZ, fT⟩, fXs, fbs⟩ := id F
  obtain ⟨v2, hv⟩ := fmc hv
  have v2 : 0 ≤ a ∧ a < 4 := v2
  have hx := fXs a.toNat (by omega)
  refine va_tlen (v := Int32.ofInt ((xs a.toNat).1 : Int)) fx fb (fT a.toNat (by omega)) hS Int32.ofInt_eq_ofNat.symm hd ?_
  refine h X p l e R s m args below meth c H locs cells slots ls G0 F hc hs hz he hM hS hl hL (fmk ?_ hv)
  show -2147483648 ≤ ((xs a.toNat).1 : Int) ∧ ((xs a.toNat).1 : Int) < 2147483648
  omega
theorem kr_alen {xs : KS} {lay : Bool} {d kc ks j pc : Nat} {L : KL} {st : List KV} {G : KG} {I : KI} {Q : KQ} {t n : Nat} {a : Int} (hd : decode (kMb j) pc = .ok (.arraylength, 1)) (ht : t < 6) (h : kWP xs lay d kc ks j (pc + 1) L ((0, 0, (n : Int)) :: st) G I Q) : kWP xs lay d kc ks j pc L ((t + 4, n, a) :: st) G I Q := by
  intro X p l e R s m args below meth c H locs cells slots ls G0 F hc hs hz he hM hS hl hL hv
  obtain ⟨fx, fb, fml, fown, fret, flk, fini, fws, ffr, flo, ⟨fK, fN, fZ, fT⟩, fXs, fbs⟩ := id F
  obtain ⟨q, rfl, hq1, hq2, hq3⟩ := kvr (hv _ List.mem_cons_self)
  obtain ⟨v2, hv⟩ := fmc hv
  have hq4 := hq3 (by omega)
  have hn : n < 2147483648 := by have := (hM.2.1 q hq1).2.2.1; omega
  have key : ∀ (cA : ClassId) (x : (Nat → Int32) ⊕ (Nat → Int64) ⊕ (Nat → UInt32) ⊕ (Nat → UInt64) ⊕ (Nat → Option Nat)) (ty : FieldType), kcell X G I q = .inl (cA, n, x) → (ktys X)[t]? = some (cA, ty) → W p l e R s m args below meth c H locs cells slots (MQ below (kQ X j lay (s.heap.size + cells + kc) G0 Q) args s (cells + kc) (slots + ks) (kA X)) (F0 m pc ls (((t + 4, n, (q : Int)) :: st).map (kcv X))) := by
    intro cA x ty hce ht2
    refine va_alen (v := Int32.ofInt (n : Int)) fx fb fK hM.1 q t (a := X.1 + q) ((kws_at X G I hq1).trans (by rw [hce])) ht2 Int32.ofInt_eq_ofNat.symm hd ?_
    refine h X p l e R s m args below meth c H locs cells slots ls G0 F hc hs hz he hM hS hl hL (fmk ?_ hv)
    show -2147483648 ≤ (n : Int) ∧ (n : Int) < 2147483648
    omega
  rcases (show t = 0 ∨ t = 1 ∨ t = 2 ∨ t = 3 ∨ t = 4 ∨ t = 5 by omega) with rfl | rfl | rfl | rfl | rfl | rfl
  · exact key _ _ _ (kcell_i hq2 hq4 (by omega)) rfl
  · exact key _ _ _ (kcell_l hq2 hq4) rfl
  · exact key _ _ _ (kcell_i hq2 hq4 (by omega)) rfl
  · exact key _ _ _ (kcell_i hq2 hq4 (by omega)) rfl
  · exact key _ _ _ (kcell_q hq2 hq4 (by omega)) rfl
  · exact key _ _ _ (kcell_q hq2 hq4 (by omega)) rfl
theorem kr_iast {xs : KS} {lay : Bool} {d kc ks j pc : Nat} {L : KL} {st : List KV} {G : KG} {I : KI} {Q : KQ} {n n2 n3 : Nat} {a i x : Int} (hd : decode (kMb j) pc = .ok (.iastore, 1)) (h0 : 0 ≤ i) (hi : i < n) (h : kWP xs lay d kc ks j (pc + 1) L st G (kst I a i x) Q) : kWP xs lay d kc ks j pc L ((0, n3, x) :: (0, n2, i) :: (4, n, a) :: st) G I Q := by
  intro X p l e R s m args below meth c H locs cells slots ls G0 F hc hs hz he hM hS hl hL hv
  obtain ⟨fx, fb, fml, fown, fret, flk, fini, fws, ffr, flo, ⟨fK, fN, fZ, fT⟩, fXs, fbs⟩ := id F
  obtain ⟨q, rfl, hq1, hq2, hq3⟩ := kvr (t := 0) (hv _ (List.mem_cons_of_mem _ (List.mem_cons_of_mem _ List.mem_cons_self)))
  obtain ⟨v0, hv⟩ := fmc hv
  obtain ⟨v1, hv⟩ := fmc hv
  obtain ⟨v2, hv⟩ := fmc hv
  have hq3 := hq3 (by omega)
  change W p l e R s m args below meth c H locs cells slots _ (F0 m pc ls (.int (Int32.ofInt x) :: .int (Int32.ofInt i) :: .ref (X.1 + q) :: st.map (kcv X)))
  have hn : n < 2147483648 := by have := (hM.2.1 q hq1).2.2.1; omega
  refine va_iast fx fb fK hM.1 (kws_D X G I) hS q 0 (n := n) (f := fun j => Int32.ofInt (I q j)) (a := X.1 + q) ((kws_at X G I hq1).trans (by rw [kcell_i hq2 hq3 (by omega)])) rfl (of32_in h0 (by omega) hi) hd (fun H1 locs1 hP1 hD1 hS1 => ?_)
  have hM1 : kSim X lay G (kst I q i (x)) H1 := by
    rw [upd_i h0 (by omega)] at hP1
    have h5 := kSim.st (k := i.toNat) (v := x) hM hP1
    rw [show ((i.toNat : Nat) : Int) = i by omega] at h5
    refine h5 (kcell_i hq2 hq3 (by omega)) ?_
    rw [hq2]
    exact v0
  exact h X p l e R s m args below meth c H1 locs1 cells slots ls G0 F hc hs hz he hM1 hS1 hl hL hv
theorem kr_bast {xs : KS} {lay : Bool} {d kc ks j pc : Nat} {L : KL} {st : List KV} {G : KG} {I : KI} {Q : KQ} {n n2 n3 : Nat} {a i x : Int} (hd : decode (kMb j) pc = .ok (.bastore, 1)) (h0 : 0 ≤ i) (hi : i < n) (h : kWP xs lay d kc ks j (pc + 1) L st G (kst I a i (w8 x)) Q) : kWP xs lay d kc ks j pc L ((0, n3, x) :: (0, n2, i) :: (6, n, a) :: st) G I Q := by
  intro X p l e R s m args below meth c H locs cells slots ls G0 F hc hs hz he hM hS hl hL hv
  obtain ⟨fx, fb, fml, fown, fret, flk, fini, fws, ffr, flo, ⟨fK, fN, fZ, fT⟩, fXs, fbs⟩ := id F
  obtain ⟨q, rfl, hq1, hq2, hq3⟩ := kvr (t := 2) (hv _ (List.mem_cons_of_mem _ (List.mem_cons_of_mem _ List.mem_cons_self)))
  obtain ⟨v0, hv⟩ := fmc hv
  obtain ⟨v1, hv⟩ := fmc hv
  obtain ⟨v2, hv⟩ := fmc hv
  have hq3 := hq3 (by omega)
  change W p l e R s m args below meth c H locs cells slots _ (F0 m pc ls (.int (Int32.ofInt x) :: .int (Int32.ofInt i) :: .ref (X.1 + q) :: st.map (kcv X)))
  have hn : n < 2147483648 := by have := (hM.2.1 q hq1).2.2.1; omega
  refine va_bast fx fb fK hM.1 (kws_D X G I) hS q 2 (n := n) (f := fun j => Int32.ofInt (I q j)) (a := X.1 + q) ((kws_at X G I hq1).trans (by rw [kcell_i hq2 hq3 (by omega)])) rfl (of32_in h0 (by omega) hi) hd (fun H1 locs1 hP1 hD1 hS1 => ?_)
  have hM1 : kSim X lay G (kst I q i (w8 x)) H1 := by
    have hn8 : vp_nar .byte (Int32.ofInt x) = Int32.ofInt (w8 x) := (vp_nar_byte _).trans (w8_eq x)
    rw [hn8] at hP1
    rw [upd_i h0 (by omega)] at hP1
    have h5 := kSim.st (k := i.toNat) (v := w8 x) hM hP1
    rw [show ((i.toNat : Nat) : Int) = i by omega] at h5
    refine h5 (kcell_i hq2 hq3 (by omega)) ?_
    rw [hq2]
    show -128 ≤ w8 x ∧ w8 x ≤ 127
    unfold w8; omega
  exact h X p l e R s m args below meth c H1 locs1 cells slots ls G0 F hc hs hz he hM1 hS1 hl hL hv
theorem kr_zast {xs : KS} {lay : Bool} {d kc ks j pc : Nat} {L : KL} {st : List KV} {G : KG} {I : KI} {Q : KQ} {n n2 n3 : Nat} {a i x : Int} (hd : decode (kMb j) pc = .ok (.bastore, 1)) (h0 : 0 ≤ i) (hi : i < n) (hx : x = 0 ∨ x = 1) (h : kWP xs lay d kc ks j (pc + 1) L st G (kst I a i x) Q) : kWP xs lay d kc ks j pc L ((0, n3, x) :: (0, n2, i) :: (7, n, a) :: st) G I Q := by
  intro X p l e R s m args below meth c H locs cells slots ls G0 F hc hs hz he hM hS hl hL hv
  obtain ⟨fx, fb, fml, fown, fret, flk, fini, fws, ffr, flo, ⟨fK, fN, fZ, fT⟩, fXs, fbs⟩ := id F
  obtain ⟨q, rfl, hq1, hq2, hq3⟩ := kvr (t := 3) (hv _ (List.mem_cons_of_mem _ (List.mem_cons_of_mem _ List.mem_cons_self)))
  obtain ⟨v0, hv⟩ := fmc hv
  obtain ⟨v1, hv⟩ := fmc hv
  obtain ⟨v2, hv⟩ := fmc hv
  have hq3 := hq3 (by omega)
  change W p l e R s m args below meth c H locs cells slots _ (F0 m pc ls (.int (Int32.ofInt x) :: .int (Int32.ofInt i) :: .ref (X.1 + q) :: st.map (kcv X)))
  have hn : n < 2147483648 := by have := (hM.2.1 q hq1).2.2.1; omega
  refine va_zast fx fb fK hM.1 (kws_D X G I) hS q 3 (n := n) (f := fun j => Int32.ofInt (I q j)) (a := X.1 + q) ((kws_at X G I hq1).trans (by rw [kcell_i hq2 hq3 (by omega)])) rfl (of32_in h0 (by omega) hi) hd (fun H1 locs1 hP1 hD1 hS1 => ?_)
  have hM1 : kSim X lay G (kst I q i (x)) H1 := by
    have hn8 : vp_nar .boolean (Int32.ofInt x) = Int32.ofInt x := by rcases hx with rfl | rfl <;> decide
    rw [hn8] at hP1
    rw [upd_i h0 (by omega)] at hP1
    have h5 := kSim.st (k := i.toNat) (v := x) hM hP1
    rw [show ((i.toNat : Nat) : Int) = i by omega] at h5
    refine h5 (kcell_i hq2 hq3 (by omega)) ?_
    rw [hq2]
    show 0 ≤ x ∧ x ≤ 1
    omega
  exact h X p l e R s m args below meth c H1 locs1 cells slots ls G0 F hc hs hz he hM1 hS1 hl hL hv
theorem kr_last {xs : KS} {lay : Bool} {d kc ks j pc : Nat} {L : KL} {st : List KV} {G : KG} {I : KI} {Q : KQ} {n n2 n3 : Nat} {a i x : Int} (hd : decode (kMb j) pc = .ok (.lastore, 1)) (h0 : 0 ≤ i) (hi : i < n) (h : kWP xs lay d kc ks j (pc + 1) L st G (kst I a i x) Q) : kWP xs lay d kc ks j pc L ((1, n3, x) :: (0, n2, i) :: (5, n, a) :: st) G I Q := by
  intro X p l e R s m args below meth c H locs cells slots ls G0 F hc hs hz he hM hS hl hL hv
  obtain ⟨fx, fb, fml, fown, fret, flk, fini, fws, ffr, flo, ⟨fK, fN, fZ, fT⟩, fXs, fbs⟩ := id F
  obtain ⟨q, rfl, hq1, hq2, hq3⟩ := kvr (t := 1) (hv _ (List.mem_cons_of_mem _ (List.mem_cons_of_mem _ List.mem_cons_self)))
  obtain ⟨v0, hv⟩ := fmc hv
  obtain ⟨v1, hv⟩ := fmc hv
  obtain ⟨v2, hv⟩ := fmc hv
  have hq3 := hq3 (by omega)
  change W p l e R s m args below meth c H locs cells slots _ (F0 m pc ls (.long (Int64.ofInt x) :: .int (Int32.ofInt i) :: .ref (X.1 + q) :: st.map (kcv X)))
  have hn : n < 2147483648 := by have := (hM.2.1 q hq1).2.2.1; omega
  refine va_last fx fb fK hM.1 (kws_D X G I) hS q 1 (n := n) (f := fun j => Int64.ofInt (I q j)) (a := X.1 + q) ((kws_at X G I hq1).trans (by rw [kcell_l hq2 hq3])) rfl (of32_in h0 (by omega) hi) hd (fun H1 locs1 hP1 hD1 hS1 => ?_)
  have hM1 : kSim X lay G (kst I q i x) H1 := by
    rw [upd_l h0 (by omega)] at hP1
    have h5 := kSim.st (k := i.toNat) (v := x) hM hP1
    rw [show ((i.toNat : Nat) : Int) = i by omega] at h5
    refine h5 (kcell_l hq2 hq3) ?_
    rw [hq2]
    exact v0
  exact h X p l e R s m args below meth c H1 locs1 cells slots ls G0 F hc hs hz he hM1 hS1 hl hL hv
theorem kfs_at {X : KX} {G : KG} {I : KI} {a : Int} {ci n k : Nat} (h : k < n) : ((List.range n).map (fun k => kfv X G I a ci k))[k]? = some (kfv X G I a ci k) := by simp [h]
theorem kIn : ∀ (ci : Nat) (q : vw_C), kcl[ci]? = some q → ∀ w ∈ u_ws q.1 q.2.1 q.2.2, w ∈ kWords := by
  have h : ∀ q ∈ kcl, ∀ w ∈ u_ws q.1 q.2.1 q.2.2, goodWord w = true ∧ w ∈ tables_1 := by decide +kernel
  intro ci q hq w hw
  have := h q (List.mem_of_getElem? hq) w hw
  exact List.mem_filter.mpr ⟨List.mem_append_right _ this.2, this.1⟩
theorem kTyOk : ∀ (ci : Nat) (q : vw_C), kcl[ci]? = some q → ∀ k, k < q.2.2 → parseFieldDescriptor (q.2.1 k).2.2.1 = some (kTy ci k) := by
  intro ci q hq
  match ci, hq with
  | 0, hq => cases hq; exact tyX0_ok
  | 1, hq => cases hq; exact tyX1_ok
  | 2, hq => cases hq; exact tyX2_ok
  | 3, hq => cases hq; exact tyX3_ok
  | 4, hq => cases hq; exact tyX4_ok
  | 5, hq => cases hq; exact tyX5_ok
  | 6, hq => cases hq; exact tyX6_ok
  | 7, hq => cases hq; exact tyX7_ok
  | 8, hq => cases hq; exact tyX8_ok
  | 9, hq => cases hq; exact tyX9_ok
  | ci + 10, hq => simp [kcl] at hq
theorem kNm : ∀ (ci : Nat) (q : vw_C), kcl[ci]? = some q → ∀ a, a < q.2.2 → ∀ b, b < q.2.2 → a ≠ b → (q.2.1 a).2.1 ≠ (q.2.1 b).2.1 := by
  intro ci q hq
  match ci, hq with
  | 0, hq => cases hq; exact nmX0
  | 1, hq => cases hq; exact nmX1
  | 2, hq => cases hq; exact nmX2
  | 3, hq => cases hq; exact nmX3
  | 4, hq => cases hq; exact nmX4
  | 5, hq => cases hq; exact nmX5
  | 6, hq => cases hq; exact nmX6
  | 7, hq => cases hq; exact nmX7
  | 8, hq => cases hq; exact nmX8
  | 9, hq => cases hq; exact nmX9
  | ci + 10, hq => simp [kcl] at hq
theorem kNfq {ci : Nat} {q : vw_C} (h : kcl[ci]? = some q) : kNf ci = q.2.2 := by unfold kNf; rw [h]
theorem kr_geti {xs : KS} {lay : Bool} {d kc ks j pc : Nat} {L : KL} {st : List KV} {G : KG} {I : KI} {Q : KQ} {ci k idx n : Nat} {q : vw_C} {a : Int} (hd : decode (kMb j) pc = .ok (.getfield idx, 3)) (hq : kcl[ci]? = some q) (hk : k < q.2.2) (hw : Cond.fieldLink (kMy j).cls idx (q.2.1 k).1 (q.2.1 k).2.1 (q.2.1 k).2.2.1 ∈ kWords) (hf : kFt ci k = 0 ∨ kFt ci k = 2) (h : kWP xs lay d kc ks j (pc + 3) L ((0, 0, I a k) :: st) G I Q) : kWP xs lay d kc ks j pc L ((10 + ci, n, a) :: st) G I Q := by
  intro X p l e R s m args below meth c H locs cells slots ls G0 F hc hs hz he hM hS hl hL hv
  obtain ⟨fx, fb, fml, fown, fret, flk, fini, fws, ffr, flo, ⟨fK, fN, fZ, fT⟩, fXs, fbs⟩ := id F
  have v2 := hv _ List.mem_cons_self
  rw [show 10 + ci = (6 + ci) + 4 by omega] at v2
  obtain ⟨b, rfl, hq1, hq2, hq3⟩ := kvr v2
  obtain ⟨v3, hv⟩ := fmc hv
  have hq2 : (G.2.1 b).1 = 10 + ci := by omega
  have hn : (G.2.1 b).2 = q.2.2 := by rw [(hM.2.1 b hq1).2.2.2 (by omega), hq2, show 10 + ci - 10 = ci by omega]; exact kNfq hq
  have hkn : k < (G.2.1 b).2 := by omega
  rw [show ((10 + ci, n, (b : Int)) :: st).map (kcv X) = .ref (X.1 + b) :: st.map (kcv X) by rw [show 10 + ci = (6 + ci) + 4 by omega]; rfl]
  refine va_get fx fb fws (kIn ci q hq) fown fK hM.1 b (a := X.1 + b) ((kws_at X G I hq1).trans (by rw [kcell_o hq2])) (by rw [hq]) k hk (fws _ hw) (fun _ z => z) (kfs_at hkn) hd ?_
  have hg := hM.2.2.1 b hq1 k hkn
  rw [hq2] at hg
  unfold kek at hg
  rw [if_pos (by omega), show 10 + ci - 10 = ci by omega] at hg
  rw [show kfv X G I b ci k = .int (Int32.ofInt (I b k)) by unfold kfv; rw [if_pos (by omega)]]
  refine h X p l e R s m args below meth c H locs cells slots ls G0 F hc hs hz he hM hS hl hL (fmk ?_ hv)
  show -2147483648 ≤ I b k ∧ I b k < 2147483648
  rcases hf with hf | hf
  · rw [hf] at hg; exact hg
  · rw [hf] at hg
    have hg : 0 ≤ I b k ∧ I b k ≤ 1 := hg
    omega
theorem kr_getr {xs : KS} {lay : Bool} {d kc ks j pc : Nat} {L : KL} {st : List KV} {G : KG} {I : KI} {Q : KQ} {ci k idx n : Nat} {q : vw_C} {a : Int} {t : Nat} (hd : decode (kMb j) pc = .ok (.getfield idx, 3)) (hq : kcl[ci]? = some q) (hk : k < q.2.2) (hw : Cond.fieldLink (kMy j).cls idx (q.2.1 k).1 (q.2.1 k).2.1 (q.2.1 k).2.2.1 ∈ kWords) (hf : kFt ci k = t + 4) (hr : 0 ≤ G.2.2 a k) (h : kWP xs lay d kc ks j (pc + 3) L ((t + 4, (G.2.1 (G.2.2 a k)).2, G.2.2 a k) :: st) G I Q) : kWP xs lay d kc ks j pc L ((10 + ci, n, a) :: st) G I Q := by
  intro X p l e R s m args below meth c H locs cells slots ls G0 F hc hs hz he hM hS hl hL hv
  obtain ⟨fx, fb, fml, fown, fret, flk, fini, fws, ffr, flo, ⟨fK, fN, fZ, fT⟩, fXs, fbs⟩ := id F
  have v2 := hv _ List.mem_cons_self
  rw [show 10 + ci = (6 + ci) + 4 by omega] at v2
  obtain ⟨b, rfl, hq1, hq2, hq3⟩ := kvr v2
  obtain ⟨v3, hv⟩ := fmc hv
  have hq2 : (G.2.1 b).1 = 10 + ci := by omega
  have hn : (G.2.1 b).2 = q.2.2 := by rw [(hM.2.1 b hq1).2.2.2 (by omega), hq2, show 10 + ci - 10 = ci by omega]; exact kNfq hq
  have hkn : k < (G.2.1 b).2 := by omega
  rw [show ((10 + ci, n, (b : Int)) :: st).map (kcv X) = .ref (X.1 + b) :: st.map (kcv X) by rw [show 10 + ci = (6 + ci) + 4 by omega]; rfl]
  refine va_get fx fb fws (kIn ci q hq) fown fK hM.1 b (a := X.1 + b) ((kws_at X G I hq1).trans (by rw [kcell_o hq2])) (by rw [hq]) k hk (fws _ hw) (fun _ z => z) (kfs_at hkn) hd ?_
  have hg := hM.2.2.1 b hq1 k hkn
  rw [hq2] at hg
  unfold kek at hg
  rw [if_pos (by omega), show 10 + ci - 10 = ci by omega, hf] at hg
  have hg : G.2.2 b k < 0 ∨ (G.2.2 b k < G.1 ∧ (G.2.1 (G.2.2 b k)).1 = t + 4) := hg
  rw [show kfv X G I b ci k = .ref (X.1 + (G.2.2 b k).toNat) by unfold kfv krf; rw [if_neg (by omega), if_neg (by omega)]; rfl]
  refine h X p l e R s m args below meth c H locs cells slots ls G0 F hc hs hz he hM hS hl hL (fmk ?_ hv)
  show 0 ≤ G.2.2 b k ∧ G.2.2 b k < G.1 ∧ (G.2.1 (G.2.2 b k)).1 = t + 4 ∧ (t + 4 < 10 → (G.2.1 (G.2.2 b k)).2 = (G.2.1 (G.2.2 b k)).2)
  exact ⟨hr, by omega, by omega, fun _ => rfl⟩
theorem kr_getL {xs : KS} {lay : Bool} {d kc ks j pc : Nat} {L : KL} {st : List KV} {G : KG} {I : KI} {Q : KQ} {ci k idx n : Nat} {q : vw_C} {a : Int} {t f w : Nat} (hd : decode (kMb j) pc = .ok (.getfield idx, 3)) (hq : kcl[ci]? = some q) (hk : k < q.2.2) (hw : Cond.fieldLink (kMy j).cls idx (q.2.1 k).1 (q.2.1 k).2.1 (q.2.1 k).2.2.1 ∈ kWords) (hlay : lay = true) (hf : kFt ci k = t + 4) (ho : kOff (10 + ci) k = some (f, w)) (h : kWP xs lay d kc ks j (pc + 3) L ((t + 4, w, a + (f : Int)) :: st) G I Q) : kWP xs lay d kc ks j pc L ((10 + ci, n, a) :: st) G I Q := by
  intro X p l e R s m args below meth c H locs cells slots ls G0 F hc hs hz he hM hS hl hL hv
  obtain ⟨fx, fb, fml, fown, fret, flk, fini, fws, ffr, flo, ⟨fK, fN, fZ, fT⟩, fXs, fbs⟩ := id F
  have v2 := hv _ List.mem_cons_self
  rw [show 10 + ci = (6 + ci) + 4 by omega] at v2
  obtain ⟨b, rfl, hq1, hq2, hq3⟩ := kvr v2
  obtain ⟨v3, hv⟩ := fmc hv
  have hq2 : (G.2.1 b).1 = 10 + ci := by omega
  have hn : (G.2.1 b).2 = q.2.2 := by rw [(hM.2.1 b hq1).2.2.2 (by omega), hq2, show 10 + ci - 10 = ci by omega]; exact kNfq hq
  have hkn : k < (G.2.1 b).2 := by omega
  rw [show ((10 + ci, n, (b : Int)) :: st).map (kcv X) = .ref (X.1 + b) :: st.map (kcv X) by rw [show 10 + ci = (6 + ci) + 4 by omega]; rfl]
  refine va_get fx fb fws (kIn ci q hq) fown fK hM.1 b (a := X.1 + b) ((kws_at X G I hq1).trans (by rw [kcell_o hq2])) (by rw [hq]) k hk (fws _ hw) (fun _ z => z) (kfs_at hkn) hd ?_
  have hg := (hM.2.2.2 hlay b hq1 k hkn).1 (f, w) (by rw [hq2]; exact ho)
  rw [hq2] at hg
  unfold kek at hg
  rw [if_pos (by omega), show 10 + ci - 10 = ci by omega, hf] at hg
  obtain ⟨g1, g2⟩ := hg
  have g1 : G.2.2 b k = (b : Int) + (f : Int) := g1
  rw [show kfv X G I b ci k = .ref (X.1 + ((b : Int) + (f : Int)).toNat) by unfold kfv krf; rw [if_neg (by omega), if_neg (by omega), g1]; rfl]
  exact h X p l e R s m args below meth c H locs cells slots ls G0 F hc hs hz he hM hS hl hL (fmk g2 hv)
theorem kr_getM {xs : KS} {lay : Bool} {d kc ks j pc : Nat} {L : KL} {st : List KV} {G : KG} {I : KI} {Q : KQ} {idx n : Nat} {a : Int} (hd : decode (kMb j) pc = .ok (.getfield idx, 3)) (hw : Cond.fieldLink (kMy j).cls idx (TX1 2).1 (TX1 2).2.1 (TX1 2).2.2.1 ∈ kWords) (hlay : lay = true) (h : kWP xs lay d kc ks j (pc + 3) L ((6, 120, G.2.2 a 2) :: st) G I Q) : kWP xs lay d kc ks j pc L ((11, n, a) :: st) G I Q := by
  intro X p l e R s m args below meth c H locs cells slots ls G0 F hc hs hz he hM hS hl hL hv
  obtain ⟨fx, fb, fml, fown, fret, flk, fini, fws, ffr, flo, ⟨fK, fN, fZ, fT⟩, fXs, fbs⟩ := id F
  obtain ⟨ci, hci⟩ : ∃ ci : Nat, ci = 1 := ⟨1, rfl⟩
  obtain ⟨k, hkk⟩ : ∃ k : Nat, k = 2 := ⟨2, rfl⟩
  obtain ⟨q, hqq⟩ : ∃ q : vw_C, q = (RX1, TX1, 11) := ⟨_, rfl⟩
  have hq : kcl[ci]? = some q := by rw [hci, hqq]; rfl
  have hk : k < q.2.2 := by rw [hqq, hkk]; decide
  have v2 := hv _ List.mem_cons_self
  rw [show (11 : Nat) = 10 + ci by omega] at v2
  rw [show 10 + ci = (6 + ci) + 4 by omega] at v2
  obtain ⟨b, rfl, hq1, hq2, hq3⟩ := kvr v2
  obtain ⟨v3, hv⟩ := fmc hv
  have hq2 : (G.2.1 b).1 = 10 + ci := by omega
  have hn : (G.2.1 b).2 = q.2.2 := by rw [(hM.2.1 b hq1).2.2.2 (by omega), hq2, show 10 + ci - 10 = ci by omega]; exact kNfq hq
  have hkn : k < (G.2.1 b).2 := by omega
  show W p l e R s m args below meth c H locs cells slots _ (F0 m pc ls (.ref (X.1 + b) :: st.map (kcv X)))
  refine va_get fx fb fws (kIn ci q hq) fown fK hM.1 b (a := X.1 + b) ((kws_at X G I hq1).trans (by rw [kcell_o hq2])) (by rw [hq]) k hk (by rw [hkk, hqq]; exact fws _ hw) (fun _ z => z) (kfs_at hkn) hd ?_
  have hg := (hM.2.2.2 hlay b hq1 k hkn).2 (by rw [hq2, hci, hkk]; rfl)
  have g0 : 0 ≤ G.2.2 b k := hg.1
  rw [show kfv X G I b ci k = .ref (X.1 + (G.2.2 b k).toNat) by unfold kfv krf; rw [if_neg (by rw [hci, hkk]; decide), if_neg (by omega)]; rfl]
  rw [hkk] at hg ⊢
  exact h X p l e R s m args below meth c H locs cells slots ls G0 F hc hs hz he hM hS hl hL (fmk hg hv)
theorem kr_gets {xs : KS} {lay : Bool} {d kc ks j pc : Nat} {L : KL} {st : List KV} {G : KG} {I : KI} {Q : KQ} {i idx : Nat} (hd : decode (kMb j) pc = .ok (.getstatic idx, 3)) (hi : i < 3) (hw : Cond.fieldLink (kMy j).cls idx (kStN i).1 (kStN i).2 "[I" ∈ kWords) (h : kWP xs lay d kc ks j (pc + 3) L ((3, 0, (i : Int)) :: st) G I Q) : kWP xs lay d kc ks j pc L st G I Q := by
  intro X p l e R s m args below meth c H locs cells slots ls G0 F hc hs hz he hM hS hl hL hv
  obtain ⟨fx, fb, fml, fown, fret, flk, fini, fws, ffr, flo, ⟨fK, fN, fZ, fT⟩, fXs, fbs⟩ := id F
  refine va_gets fx fb (fZ i hi) hS fown (fws _ hw) (fun _ z => z) hd ?_
  refine h X p l e R s m args below meth c H locs cells slots ls G0 F hc hs hz he hM hS hl hL (fmk ?_ hv)
  show 0 ≤ (i : Int) ∧ (i : Int) < 4
  omega
theorem kr_aaldL {xs : KS} {lay : Bool} {d kc ks j pc : Nat} {L : KL} {st : List KV} {G : KG} {I : KI} {Q : KQ} {t n n2 f : Nat} {w : Nat} {a i : Int} (hd : decode (kMb j) pc = .ok (.aaload, 1)) (h0 : 0 ≤ i) (hi : i < n) (hlay : lay = true) (ht : t = 8 ∨ t = 9) (ho : kOff t i.toNat = some (f, w)) (h : kWP xs lay d kc ks j (pc + 1) L ((kek t 0, w, a + (f : Int)) :: st) G I Q) : kWP xs lay d kc ks j pc L ((0, n2, i) :: (t, n, a) :: st) G I Q := by
  intro X p l e R s m args below meth c H locs cells slots ls G0 F hc hs hz he hM hS hl hL hv
  obtain ⟨fx, fb, fml, fown, fret, flk, fini, fws, ffr, flo, ⟨fK, fN, fZ, fT⟩, fXs, fbs⟩ := id F
  obtain ⟨u, rfl⟩ : ∃ u, t = u + 4 := ⟨t - 4, by omega⟩
  obtain ⟨q, rfl, hq1, hq2, hq3⟩ := kvr (hv _ (List.mem_cons_of_mem _ List.mem_cons_self))
  obtain ⟨v1, hv⟩ := fmc hv
  obtain ⟨v2, hv⟩ := fmc hv
  have hq3 := hq3 (by omega)
  have hn : n < 2147483648 := by have := (hM.2.1 q hq1).2.2.1; omega
  have hg := (hM.2.2.2 hlay q hq1 i.toNat (by omega)).1 (f, w) (by rw [hq2]; exact ho)
  rw [hq2] at hg
  rw [show ((i.toNat : Nat) : Int) = i by omega] at hg
  obtain ⟨g1, g2⟩ := hg
  have g1 : G.2.2 q i = (q : Int) + (f : Int) := g1
  have key : ∀ (C : String), (ktys X)[u]? = some (X.2.2.1 (u + 4), .object C) → W p l e R s m args below meth c H locs cells slots (MQ below (kQ X j lay (s.heap.size + cells + kc) G0 Q) args s (cells + kc) (slots + ks) (kA X)) (F0 m pc ls (((0, n2, i) :: (u + 4, n, (q : Int)) :: st).map (kcv X))) := by
    intro C hC
    change W p l e R s m args below meth c H locs cells slots _ (F0 m pc ls (.int (Int32.ofInt i) :: .ref (X.1 + q) :: st.map (kcv X)))
    refine va_aldq fx fb fK hM.1 q u (n := n) (f := fun j => krf X (G.2.2 q j)) (a := X.1 + q) ((kws_at X G I hq1).trans (by rw [kcell_q hq2 hq3 ht])) hC (of32_in h0 (by omega) hi) hd ?_
    simp only [of32_nat h0 (by omega : i < 2147483648)]
    rw [show ((i.toNat : Nat) : Int) = i by omega, g1]
    rw [show va_rf (krf X ((q : Int) + (f : Int))) = .ref (X.1 + ((q : Int) + (f : Int)).toNat) by unfold krf; rw [if_neg (by omega)]; rfl]
    have h6 := h X p l e R s m args below meth c H locs cells slots ls G0 F hc hs hz he hM hS hl hL (fmk (show kval G (kek (u + 4) 0, w, (q : Int) + (f : Int)) by
      rcases ht with h8 | h8
      · obtain rfl : u = 4 := by omega
        exact g2
      · obtain rfl : u = 5 := by omega
        exact g2) hv)
    rcases ht with h8 | h8
    · obtain rfl : u = 4 := by omega
      exact h6
    · obtain rfl : u = 5 := by omega
      exact h6
  rcases ht with h8 | h8
  · obtain rfl : u = 4 := by omega
    exact key RX3 rfl
  · obtain rfl : u = 5 := by omega
    exact key RX5 rfl
