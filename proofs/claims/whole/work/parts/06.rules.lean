/-! THE RULES: one an instruction -/
theorem kt3 {t : Nat} (h : 2 ≤ t) : t = 2 ∨ t = 3 ∨ ∃ u, t = u + 4 := by
  rcases Nat.lt_or_ge t 4 with q | q
  · omega
  · exact Or.inr (Or.inr ⟨t - 4, by omega⟩)
theorem fmc {G : KG} {a : KV} {st : List KV} (h : ∀ v ∈ a :: st, kval G v) : kval G a ∧ ∀ v ∈ st, kval G v := List.forall_mem_cons.mp h
theorem fmk {G : KG} {a : KV} {st : List KV} (h1 : kval G a) (h : ∀ v ∈ st, kval G v) : ∀ v ∈ a :: st, kval G v := List.forall_mem_cons.mpr ⟨h1, h⟩
def klk : KL → Nat → Option KV
  | [], _ => none
  | q :: r, i => bif Nat.beq q.1 i then some q.2 else klk r i
theorem klk_mem : ∀ {L : KL} {i : Nat} {v : KV}, klk L i = some v → (i, v) ∈ L
  | q :: r, i, v, h => by
    unfold klk at h
    cases hb : Nat.beq q.1 i with
    | true =>
      rw [hb] at h
      simp only [cond_true, Option.some.injEq] at h
      have := Nat.eq_of_beq_eq_true hb
      subst this; subst h
      exact List.mem_cons_self
    | false =>
      rw [hb] at h
      exact List.mem_cons_of_mem _ (klk_mem h)
theorem klk_at {X : KX} {ls : Array Slot} {n : Nat} {L : KL} (hl : lv_has ls n (L.map (fun q => (q.1, kcv X q.2)))) {i : Nat} {v : KV} (h : klk L i = some v) : ls[i]? = some (.val (kcv X v)) :=
  hl.2.2 (i, kcv X v) (List.mem_map.mpr ⟨(i, v), klk_mem h, rfl⟩)
def kdel (i : Nat) (L : KL) : KL := L.filter (fun q => !(q.1 == i) && !(q.1 + 1 == i && q.2.1 == 1))
def kdel2 (i : Nat) (L : KL) : KL := L.filter (fun q => !(q.1 == i) && (!(q.1 == i + 1) && !(q.1 + 1 == i && q.2.1 == 1)))
theorem kcat (X : KX) (v : KV) : ((kcv X v).category == 2) = (v.1 == 1) := by
  obtain ⟨t, n, x⟩ := v
  unfold kcv
  split <;> rename_i h <;> simp only at h <;> first | (rw [h]; rfl) | skip
  have h1 : t ≠ 1 := by assumption
  simp [Value.category, h1]
theorem kdel_map (X : KX) (i : Nat) (L : KL) : (L.map (fun q => (q.1, kcv X q.2))).filter (fun q => !(q.1 == i) && !(q.1 + 1 == i && q.2.category == 2)) = (kdel i L).map (fun q => (q.1, kcv X q.2)) := by
  unfold kdel
  rw [List.filter_map]
  congr 1
  apply List.filter_congr
  intro q _
  simp only [Function.comp, kcat]
theorem kdel2_map (X : KX) (i : Nat) (L : KL) : (L.map (fun q => (q.1, kcv X q.2))).filter (fun q => !(q.1 == i) && (!(q.1 == i + 1) && !(q.1 + 1 == i && q.2.category == 2))) = (kdel2 i L).map (fun q => (q.1, kcv X q.2)) := by
  unfold kdel2
  rw [List.filter_map]
  congr 1
  apply List.filter_congr
  intro q _
  simp only [Function.comp, kcat]
theorem kdel_sub {i : Nat} {L : KL} {G : KG} (h : ∀ q ∈ L, kval G q.2) : ∀ q ∈ kdel i L, kval G q.2 := fun q hq => h q (List.mem_filter.mp hq).1
theorem kdel2_sub {i : Nat} {L : KL} {G : KG} (h : ∀ q ∈ L, kval G q.2) : ∀ q ∈ kdel2 i L, kval G q.2 := fun q hq => h q (List.mem_filter.mp hq).1
theorem fmkL {G : KG} {a : Nat × KV} {L : KL} (h1 : kval G a.2) (h : ∀ q ∈ L, kval G q.2) : ∀ q ∈ a :: L, kval G q.2 := List.forall_mem_cons.mpr ⟨h1, h⟩
theorem kr_iconst {xs : KS} {lay : Bool} {d kc ks j pc : Nat} {L : KL} {st : List KV} {G : KG} {I : KI} {Q : KQ} {n z : Int} (hd : decode (kMb j) pc = .ok (.iconst n, 1)) (hz1 : -2147483648 ≤ z ∧ z < 2147483648) (hn : Int32.ofInt n = Int32.ofInt z) (h : kWP xs lay d kc ks j (pc + 1) L ((0, 0, z) :: st) G I Q) : kWP xs lay d kc ks j pc L st G I Q := by
  intro X p l e R s m args below meth c H locs cells slots ls G0 F hc hs hz he hM hS hl hL hv
  refine lv_iconst F.1 F.2.1 hd hn ?_
  exact h X p l e R s m args below meth c H locs cells slots ls G0 F hc hs hz he hM hS hl hL (fmk hz1 hv)
theorem kr_bipush {xs : KS} {lay : Bool} {d kc ks j pc : Nat} {L : KL} {st : List KV} {G : KG} {I : KI} {Q : KQ} {n z : Int} (hd : decode (kMb j) pc = .ok (.bipush n, 2)) (hz1 : -2147483648 ≤ z ∧ z < 2147483648) (hn : (Int8.ofInt n).toInt32 = Int32.ofInt z) (h : kWP xs lay d kc ks j (pc + 2) L ((0, 0, z) :: st) G I Q) : kWP xs lay d kc ks j pc L st G I Q := by
  intro X p l e R s m args below meth c H locs cells slots ls G0 F hc hs hz he hM hS hl hL hv
  refine lv_bipush F.1 F.2.1 hd hn ?_
  exact h X p l e R s m args below meth c H locs cells slots ls G0 F hc hs hz he hM hS hl hL (fmk hz1 hv)
theorem kr_sipush {xs : KS} {lay : Bool} {d kc ks j pc : Nat} {L : KL} {st : List KV} {G : KG} {I : KI} {Q : KQ} {n z : Int} (hd : decode (kMb j) pc = .ok (.sipush n, 3)) (hz1 : -2147483648 ≤ z ∧ z < 2147483648) (hn : (Int16.ofInt n).toInt32 = Int32.ofInt z) (h : kWP xs lay d kc ks j (pc + 3) L ((0, 0, z) :: st) G I Q) : kWP xs lay d kc ks j pc L st G I Q := by
  intro X p l e R s m args below meth c H locs cells slots ls G0 F hc hs hz he hM hS hl hL hv
  refine lv_sipush F.1 F.2.1 hd hn ?_
  exact h X p l e R s m args below meth c H locs cells slots ls G0 F hc hs hz he hM hS hl hL (fmk hz1 hv)
theorem kr_lconst {xs : KS} {lay : Bool} {d kc ks j pc : Nat} {L : KL} {st : List KV} {G : KG} {I : KI} {Q : KQ} {n : Fin 2} {z : Int} (hd : decode (kMb j) pc = .ok (.lconst n, 1)) (hz1 : -9223372036854775808 ≤ z ∧ z < 9223372036854775808) (hn : Int64.ofNat (n : Nat) = Int64.ofInt z) (h : kWP xs lay d kc ks j (pc + 1) L ((1, 0, z) :: st) G I Q) : kWP xs lay d kc ks j pc L st G I Q := by
  intro X p l e R s m args below meth c H locs cells slots ls G0 F hc hs hz he hM hS hl hL hv
  refine lv_lconst F.1 F.2.1 hd hn ?_
  exact h X p l e R s m args below meth c H locs cells slots ls G0 F hc hs hz he hM hS hl hL (fmk hz1 hv)
theorem kr_ldc {xs : KS} {lay : Bool} {d kc ks j pc : Nat} {L : KL} {st : List KV} {G : KG} {I : KI} {Q : KQ} {n : Nat} {w : Int32} {z : Int} (hd : decode (kMb j) pc = .ok (.ldc n, 2)) (hw : Cond.constant (kMy j).cls n w ∈ kWords) (hz1 : -2147483648 ≤ z ∧ z < 2147483648) (hn : w = Int32.ofInt z) (h : kWP xs lay d kc ks j (pc + 2) L ((0, 0, z) :: st) G I Q) : kWP xs lay d kc ks j pc L st G I Q := by
  intro X p l e R s m args below meth c H locs cells slots ls G0 F hc hs hz he hM hS hl hL hv
  subst hn
  refine lv_ldc F.1 F.2.1 F.2.2.2.1 (F.2.2.2.2.2.2.2.1 _ hw) hd ?_
  exact h X p l e R s m args below meth c H locs cells slots ls G0 F hc hs hz he hM hS hl hL (fmk hz1 hv)
theorem kr_ldcw {xs : KS} {lay : Bool} {d kc ks j pc : Nat} {L : KL} {st : List KV} {G : KG} {I : KI} {Q : KQ} {n : Nat} {w : Int32} {z : Int} (hd : decode (kMb j) pc = .ok (.ldc_w n, 3)) (hw : Cond.constant (kMy j).cls n w ∈ kWords) (hz1 : -2147483648 ≤ z ∧ z < 2147483648) (hn : w = Int32.ofInt z) (h : kWP xs lay d kc ks j (pc + 3) L ((0, 0, z) :: st) G I Q) : kWP xs lay d kc ks j pc L st G I Q := by
  intro X p l e R s m args below meth c H locs cells slots ls G0 F hc hs hz he hM hS hl hL hv
  subst hn
  refine lv_ldcw F.1 F.2.1 F.2.2.2.1 (F.2.2.2.2.2.2.2.1 _ hw) hd ?_
  exact h X p l e R s m args below meth c H locs cells slots ls G0 F hc hs hz he hM hS hl hL (fmk hz1 hv)
theorem kr_ldc2 {xs : KS} {lay : Bool} {d kc ks j pc : Nat} {L : KL} {st : List KV} {G : KG} {I : KI} {Q : KQ} {n : Nat} {w : Int64} {z : Int} (hd : decode (kMb j) pc = .ok (.ldc2_w n, 3)) (hw : Cond.constantLong (kMy j).cls n w ∈ kWords) (hz1 : -9223372036854775808 ≤ z ∧ z < 9223372036854775808) (hn : w = Int64.ofInt z) (h : kWP xs lay d kc ks j (pc + 3) L ((1, 0, z) :: st) G I Q) : kWP xs lay d kc ks j pc L st G I Q := by
  intro X p l e R s m args below meth c H locs cells slots ls G0 F hc hs hz he hM hS hl hL hv
  subst hn
  refine lv_ldc2 F.1 F.2.1 F.2.2.2.1 (F.2.2.2.2.2.2.2.1 _ hw) hd ?_
  exact h X p l e R s m args below meth c H locs cells slots ls G0 F hc hs hz he hM hS hl hL (fmk hz1 hv)
theorem kr_null {xs : KS} {lay : Bool} {d kc ks j pc : Nat} {L : KL} {st : List KV} {G : KG} {I : KI} {Q : KQ}  (hd : decode (kMb j) pc = .ok (.aconst_null, 1)) (h : kWP xs lay d kc ks j (pc + 1) L ((2, 0, 0) :: st) G I Q) : kWP xs lay d kc ks j pc L st G I Q := by
  intro X p l e R s m args below meth c H locs cells slots ls G0 F hc hs hz he hM hS hl hL hv
  refine lv_null F.1 F.2.1 hd ?_
  exact h X p l e R s m args below meth c H locs cells slots ls G0 F hc hs hz he hM hS hl hL (fmk trivial hv)
theorem kr_iload_n {xs : KS} {lay : Bool} {d kc ks j pc : Nat} {L : KL} {st : List KV} {G : KG} {I : KI} {Q : KQ} {i : Nat} {x : Int} {n : Nat} {k : Fin 4} (hd : decode (kMb j) pc = .ok (.iload_n k, 1)) (hi : (k : Nat) = i) (hk : klk L i = some (0, n, x)) (h : kWP xs lay d kc ks j (pc + 1) L ((0, n, x) :: st) G I Q) : kWP xs lay d kc ks j pc L st G I Q := by
  intro X p l e R s m args below meth c H locs cells slots ls G0 F hc hs hz he hM hS hl hL hv
  refine lv_iload_n F.1 F.2.1 hd hi (klk_at hl hk) ?_
  exact h X p l e R s m args below meth c H locs cells slots ls G0 F hc hs hz he hM hS hl hL (fmk (hL _ (klk_mem hk)) hv)
theorem kr_iload {xs : KS} {lay : Bool} {d kc ks j pc : Nat} {L : KL} {st : List KV} {G : KG} {I : KI} {Q : KQ} {i : Nat} {x : Int} {n : Nat} (hd : decode (kMb j) pc = .ok (.iload i, 2)) (hk : klk L i = some (0, n, x)) (h : kWP xs lay d kc ks j (pc + 2) L ((0, n, x) :: st) G I Q) : kWP xs lay d kc ks j pc L st G I Q := by
  intro X p l e R s m args below meth c H locs cells slots ls G0 F hc hs hz he hM hS hl hL hv
  refine lv_iload F.1 F.2.1 hd (klk_at hl hk) ?_
  exact h X p l e R s m args below meth c H locs cells slots ls G0 F hc hs hz he hM hS hl hL (fmk (hL _ (klk_mem hk)) hv)
theorem kr_lload_n {xs : KS} {lay : Bool} {d kc ks j pc : Nat} {L : KL} {st : List KV} {G : KG} {I : KI} {Q : KQ} {i : Nat} {x : Int} {n : Nat} {k : Fin 4} (hd : decode (kMb j) pc = .ok (.lload_n k, 1)) (hi : (k : Nat) = i) (hk : klk L i = some (1, n, x)) (h : kWP xs lay d kc ks j (pc + 1) L ((1, n, x) :: st) G I Q) : kWP xs lay d kc ks j pc L st G I Q := by
  intro X p l e R s m args below meth c H locs cells slots ls G0 F hc hs hz he hM hS hl hL hv
  refine lv_lload_n F.1 F.2.1 hd hi (klk_at hl hk) ?_
  exact h X p l e R s m args below meth c H locs cells slots ls G0 F hc hs hz he hM hS hl hL (fmk (hL _ (klk_mem hk)) hv)
theorem kr_lload {xs : KS} {lay : Bool} {d kc ks j pc : Nat} {L : KL} {st : List KV} {G : KG} {I : KI} {Q : KQ} {i : Nat} {x : Int} {n : Nat} (hd : decode (kMb j) pc = .ok (.lload i, 2)) (hk : klk L i = some (1, n, x)) (h : kWP xs lay d kc ks j (pc + 2) L ((1, n, x) :: st) G I Q) : kWP xs lay d kc ks j pc L st G I Q := by
  intro X p l e R s m args below meth c H locs cells slots ls G0 F hc hs hz he hM hS hl hL hv
  refine lv_lload F.1 F.2.1 hd (klk_at hl hk) ?_
  exact h X p l e R s m args below meth c H locs cells slots ls G0 F hc hs hz he hM hS hl hL (fmk (hL _ (klk_mem hk)) hv)
theorem kr_aload_n {xs : KS} {lay : Bool} {d kc ks j pc : Nat} {L : KL} {st : List KV} {G : KG} {I : KI} {Q : KQ} {i t n : Nat} {x : Int} {k : Fin 4} (hd : decode (kMb j) pc = .ok (.aload_n k, 1)) (hi : (k : Nat) = i) (hk : klk L i = some (t, n, x)) (ht : 2 ≤ t) (h : kWP xs lay d kc ks j (pc + 1) L ((t, n, x) :: st) G I Q) : kWP xs lay d kc ks j pc L st G I Q := by
  intro X p l e R s m args below meth c H locs cells slots ls G0 F hc hs hz he hM hS hl hL hv
  have h1 := klk_at hl hk
  have h2 := h X p l e R s m args below meth c H locs cells slots ls G0 F hc hs hz he hM hS hl hL (fmk (hL _ (klk_mem hk)) hv)
  match t, ht with
  | 2, _ => exact lv_aload_nN F.1 F.2.1 hd hi h1 h2
  | 3, _ => exact lv_aload_n F.1 F.2.1 hd hi h1 h2
  | t + 4, _ => exact lv_aload_n F.1 F.2.1 hd hi h1 h2
theorem kr_aload {xs : KS} {lay : Bool} {d kc ks j pc : Nat} {L : KL} {st : List KV} {G : KG} {I : KI} {Q : KQ} {i t n : Nat} {x : Int} (hd : decode (kMb j) pc = .ok (.aload i, 2)) (hk : klk L i = some (t, n, x)) (ht : 2 ≤ t) (h : kWP xs lay d kc ks j (pc + 2) L ((t, n, x) :: st) G I Q) : kWP xs lay d kc ks j pc L st G I Q := by
  intro X p l e R s m args below meth c H locs cells slots ls G0 F hc hs hz he hM hS hl hL hv
  have h1 := klk_at hl hk
  have h2 := h X p l e R s m args below meth c H locs cells slots ls G0 F hc hs hz he hM hS hl hL (fmk (hL _ (klk_mem hk)) hv)
  match t, ht with
  | 2, _ => exact lv_aloadN F.1 F.2.1 hd h1 h2
  | 3, _ => exact lv_aload F.1 F.2.1 hd h1 h2
  | t + 4, _ => exact lv_aload F.1 F.2.1 hd h1 h2
theorem kr_istore_n {xs : KS} {lay : Bool} {d kc ks j pc : Nat} {L : KL} {st : List KV} {G : KG} {I : KI} {Q : KQ} {i n : Nat} {x : Int} {k : Fin 4} (hd : decode (kMb j) pc = .ok (.istore_n k, 1)) (hi : (k : Nat) = i) (hi2 : i < kMl j) (h : kWP xs lay d kc ks j (pc + 1) ((i, 0, n, x) :: kdel i L) st G I Q) : kWP xs lay d kc ks j pc L ((0, n, x) :: st) G I Q := by
  intro X p l e R s m args below meth c H locs cells slots ls G0 F hc hs hz he hM hS hl hL hv
  obtain ⟨v1, hv⟩ := fmc hv
  refine lv_istore_n F.1 F.2.1 hd hi hl hi2 (by rw [kdel_map]) (fun ls' hl' => ?_)
  exact h X p l e R s m args below meth c H locs cells slots ls' G0 F hc hs hz he hM hS hl' (fmkL v1 (kdel_sub hL)) hv
theorem kr_istore {xs : KS} {lay : Bool} {d kc ks j pc : Nat} {L : KL} {st : List KV} {G : KG} {I : KI} {Q : KQ} {i n : Nat} {x : Int} (hd : decode (kMb j) pc = .ok (.istore i, 2)) (hi2 : i < kMl j) (h : kWP xs lay d kc ks j (pc + 2) ((i, 0, n, x) :: kdel i L) st G I Q) : kWP xs lay d kc ks j pc L ((0, n, x) :: st) G I Q := by
  intro X p l e R s m args below meth c H locs cells slots ls G0 F hc hs hz he hM hS hl hL hv
  obtain ⟨v1, hv⟩ := fmc hv
  refine lv_istore F.1 F.2.1 hd hl hi2 (by rw [kdel_map]) (fun ls' hl' => ?_)
  exact h X p l e R s m args below meth c H locs cells slots ls' G0 F hc hs hz he hM hS hl' (fmkL v1 (kdel_sub hL)) hv
theorem kr_lstore_n {xs : KS} {lay : Bool} {d kc ks j pc : Nat} {L : KL} {st : List KV} {G : KG} {I : KI} {Q : KQ} {i n : Nat} {x : Int} {k : Fin 4} (hd : decode (kMb j) pc = .ok (.lstore_n k, 1)) (hi : (k : Nat) = i) (hi2 : i + 1 < kMl j) (h : kWP xs lay d kc ks j (pc + 1) ((i, 1, n, x) :: kdel2 i L) st G I Q) : kWP xs lay d kc ks j pc L ((1, n, x) :: st) G I Q := by
  intro X p l e R s m args below meth c H locs cells slots ls G0 F hc hs hz he hM hS hl hL hv
  obtain ⟨v1, hv⟩ := fmc hv
  refine lv_lstore_n F.1 F.2.1 hd hi hl hi2 (by rw [kdel2_map]) (fun ls' hl' => ?_)
  exact h X p l e R s m args below meth c H locs cells slots ls' G0 F hc hs hz he hM hS hl' (fmkL v1 (kdel2_sub hL)) hv
theorem kr_lstore {xs : KS} {lay : Bool} {d kc ks j pc : Nat} {L : KL} {st : List KV} {G : KG} {I : KI} {Q : KQ} {i n : Nat} {x : Int} (hd : decode (kMb j) pc = .ok (.lstore i, 2)) (hi2 : i + 1 < kMl j) (h : kWP xs lay d kc ks j (pc + 2) ((i, 1, n, x) :: kdel2 i L) st G I Q) : kWP xs lay d kc ks j pc L ((1, n, x) :: st) G I Q := by
  intro X p l e R s m args below meth c H locs cells slots ls G0 F hc hs hz he hM hS hl hL hv
  obtain ⟨v1, hv⟩ := fmc hv
  refine lv_lstore F.1 F.2.1 hd hl hi2 (by rw [kdel2_map]) (fun ls' hl' => ?_)
  exact h X p l e R s m args below meth c H locs cells slots ls' G0 F hc hs hz he hM hS hl' (fmkL v1 (kdel2_sub hL)) hv
theorem kr_astore_n {xs : KS} {lay : Bool} {d kc ks j pc : Nat} {L : KL} {st : List KV} {G : KG} {I : KI} {Q : KQ} {i t n : Nat} {x : Int} {k : Fin 4} (hd : decode (kMb j) pc = .ok (.astore_n k, 1)) (hi : (k : Nat) = i) (hi2 : i < kMl j) (ht : 2 ≤ t) (h : kWP xs lay d kc ks j (pc + 1) ((i, t, n, x) :: kdel i L) st G I Q) : kWP xs lay d kc ks j pc L ((t, n, x) :: st) G I Q := by
  intro X p l e R s m args below meth c H locs cells slots ls G0 F hc hs hz he hM hS hl hL hv
  obtain ⟨v1, hv⟩ := fmc hv
  have h2 := fun ls' (hl' : lv_has ls' (kMl j) (((i, t, n, x) :: kdel i L).map (fun q => (q.1, kcv X q.2)))) => h X p l e R s m args below meth c H locs cells slots ls' G0 F hc hs hz he hM hS hl' (fmkL v1 (kdel_sub hL)) hv
  rcases kt3 ht with rfl | rfl | ⟨u, rfl⟩
  · exact lv_astore_nN F.1 F.2.1 hd hi hl hi2 (by rw [kdel_map]; rfl) (fun ls' hl' => h2 ls' hl')
  · exact lv_astore_n F.1 F.2.1 hd hi hl hi2 (by rw [kdel_map]; rfl) (fun ls' hl' => h2 ls' hl')
  · exact lv_astore_n F.1 F.2.1 hd hi hl hi2 (by rw [kdel_map]; rfl) (fun ls' hl' => h2 ls' hl')
theorem kr_astore {xs : KS} {lay : Bool} {d kc ks j pc : Nat} {L : KL} {st : List KV} {G : KG} {I : KI} {Q : KQ} {i t n : Nat} {x : Int} (hd : decode (kMb j) pc = .ok (.astore i, 2)) (hi2 : i < kMl j) (ht : 2 ≤ t) (h : kWP xs lay d kc ks j (pc + 2) ((i, t, n, x) :: kdel i L) st G I Q) : kWP xs lay d kc ks j pc L ((t, n, x) :: st) G I Q := by
  intro X p l e R s m args below meth c H locs cells slots ls G0 F hc hs hz he hM hS hl hL hv
  obtain ⟨v1, hv⟩ := fmc hv
  have h2 := fun ls' (hl' : lv_has ls' (kMl j) (((i, t, n, x) :: kdel i L).map (fun q => (q.1, kcv X q.2)))) => h X p l e R s m args below meth c H locs cells slots ls' G0 F hc hs hz he hM hS hl' (fmkL v1 (kdel_sub hL)) hv
  rcases kt3 ht with rfl | rfl | ⟨u, rfl⟩
  · exact lv_astoreN F.1 F.2.1 hd hl hi2 (by rw [kdel_map]; rfl) (fun ls' hl' => h2 ls' hl')
  · exact lv_astore F.1 F.2.1 hd hl hi2 (by rw [kdel_map]; rfl) (fun ls' hl' => h2 ls' hl')
  · exact lv_astore F.1 F.2.1 hd hl hi2 (by rw [kdel_map]; rfl) (fun ls' hl' => h2 ls' hl')
theorem kr_iinc {xs : KS} {lay : Bool} {d kc ks j pc : Nat} {L : KL} {st : List KV} {G : KG} {I : KI} {Q : KQ} {i n : Nat} {x z : Int} (hd : decode (kMb j) pc = .ok (.iinc i z, 3)) (hk : klk L i = some (0, n, x)) (hi2 : i < kMl j) (h : kWP xs lay d kc ks j (pc + 3) ((i, 0, 0, w32 (x + z)) :: kdel i L) st G I Q) : kWP xs lay d kc ks j pc L st G I Q := by
  intro X p l e R s m args below meth c H locs cells slots ls G0 F hc hs hz he hM hS hl hL hv
  obtain ⟨k, hk1⟩ := List.getElem?_of_mem (klk_mem hk)
  refine lv_iinc (v := Int32.ofInt (w32 (x + z))) (k := k) F.1 F.2.1 hd hl (x := Int32.ofInt x) ?_ ?_ hi2 (by rw [kdel_map]) (fun ls' hl' => ?_)
  · rw [List.getElem?_map, hk1]; rfl
  · rw [ofInt_w32, Int32.ofInt_add]
  exact h X p l e R s m args below meth c H locs cells slots ls' G0 F hc hs hz he hM hS hl' (fmkL ⟨w32_lo _, w32_hi _⟩ (kdel_sub hL)) hv
def kidiv (a b : Int) : Int := (Int32.ofInt a / Int32.ofInt b).toInt
def kirem (a b : Int) : Int := (Int32.ofInt a - Int32.ofInt a / Int32.ofInt b * Int32.ofInt b).toInt
def kiand (a b : Int) : Int := (Int32.ofInt a &&& Int32.ofInt b).toInt
def kior (a b : Int) : Int := (Int32.ofInt a ||| Int32.ofInt b).toInt
def kixor (a b : Int) : Int := (Int32.ofInt a ^^^ Int32.ofInt b).toInt
def kishl (a b : Int) : Int := (Int32.ofInt a <<< (Int32.ofInt b &&& 31)).toInt
def kishr (a b : Int) : Int := (Int32.ofInt a >>> (Int32.ofInt b &&& 31)).toInt
def kiushr (a b : Int) : Int := ((Int32.ofInt a).toUInt32 >>> ((Int32.ofInt b).toUInt32 &&& Int32.toUInt32 31)).toInt32.toInt
def kland (a b : Int) : Int := (Int64.ofInt a &&& Int64.ofInt b).toInt
def klor (a b : Int) : Int := (Int64.ofInt a ||| Int64.ofInt b).toInt
def klshl (a b : Int) : Int := (Int64.ofInt a <<< ((Int32.ofInt b).toInt64 &&& 63)).toInt
def klcmp (a b : Int) : Int := if b < a then 1 else if a = b then 0 else -1
theorem kr_iadd {xs : KS} {lay : Bool} {d kc ks j pc : Nat} {L : KL} {st : List KV} {G : KG} {I : KI} {Q : KQ} {n n2 : Nat} {x y : Int} (hd : decode (kMb j) pc = .ok (.iadd, 1)) (h : kWP xs lay d kc ks j (pc + 1) L ((0, 0, w32 (x + y)) :: st) G I Q) : kWP xs lay d kc ks j pc L ((0, n, y) :: (0, n2, x) :: st) G I Q := by
  intro X p l e R s m args below meth c H locs cells slots ls G0 F hc hs hz he hM hS hl hL hv
  obtain ⟨v1, hv⟩ := fmc hv
  obtain ⟨v2, hv⟩ := fmc hv
  refine lv_iadd F.1 F.2.1 hd ?_
  rw [show Int32.ofInt x + Int32.ofInt y = Int32.ofInt (w32 (x + y)) from by rw [ofInt_w32, Int32.ofInt_add]]
  exact h X p l e R s m args below meth c H locs cells slots ls G0 F hc hs hz he hM hS hl hL (fmk ⟨w32_lo _, w32_hi _⟩ hv)
theorem kr_isub {xs : KS} {lay : Bool} {d kc ks j pc : Nat} {L : KL} {st : List KV} {G : KG} {I : KI} {Q : KQ} {n n2 : Nat} {x y : Int} (hd : decode (kMb j) pc = .ok (.isub, 1)) (h : kWP xs lay d kc ks j (pc + 1) L ((0, 0, w32 (x - y)) :: st) G I Q) : kWP xs lay d kc ks j pc L ((0, n, y) :: (0, n2, x) :: st) G I Q := by
  intro X p l e R s m args below meth c H locs cells slots ls G0 F hc hs hz he hM hS hl hL hv
  obtain ⟨v1, hv⟩ := fmc hv
  obtain ⟨v2, hv⟩ := fmc hv
  refine lv_isub F.1 F.2.1 hd ?_
  rw [show Int32.ofInt x - Int32.ofInt y = Int32.ofInt (w32 (x - y)) from by rw [ofInt_w32, Int32.ofInt_sub]]
  exact h X p l e R s m args below meth c H locs cells slots ls G0 F hc hs hz he hM hS hl hL (fmk ⟨w32_lo _, w32_hi _⟩ hv)
theorem kr_imul {xs : KS} {lay : Bool} {d kc ks j pc : Nat} {L : KL} {st : List KV} {G : KG} {I : KI} {Q : KQ} {n n2 : Nat} {x y : Int} (hd : decode (kMb j) pc = .ok (.imul, 1)) (h : kWP xs lay d kc ks j (pc + 1) L ((0, 0, w32 (x * y)) :: st) G I Q) : kWP xs lay d kc ks j pc L ((0, n, y) :: (0, n2, x) :: st) G I Q := by
  intro X p l e R s m args below meth c H locs cells slots ls G0 F hc hs hz he hM hS hl hL hv
  obtain ⟨v1, hv⟩ := fmc hv
  obtain ⟨v2, hv⟩ := fmc hv
  refine lv_imul F.1 F.2.1 hd ?_
  rw [show Int32.ofInt x * Int32.ofInt y = Int32.ofInt (w32 (x * y)) from by rw [ofInt_w32, Int32.ofInt_mul]]
  exact h X p l e R s m args below meth c H locs cells slots ls G0 F hc hs hz he hM hS hl hL (fmk ⟨w32_lo _, w32_hi _⟩ hv)
theorem kr_iand {xs : KS} {lay : Bool} {d kc ks j pc : Nat} {L : KL} {st : List KV} {G : KG} {I : KI} {Q : KQ} {n n2 : Nat} {x y : Int} (hd : decode (kMb j) pc = .ok (.iand, 1)) (h : kWP xs lay d kc ks j (pc + 1) L ((0, 0, kiand x y) :: st) G I Q) : kWP xs lay d kc ks j pc L ((0, n, y) :: (0, n2, x) :: st) G I Q := by
  intro X p l e R s m args below meth c H locs cells slots ls G0 F hc hs hz he hM hS hl hL hv
  obtain ⟨v1, hv⟩ := fmc hv
  obtain ⟨v2, hv⟩ := fmc hv
  refine lv_iand F.1 F.2.1 hd ?_
  rw [show Int32.ofInt x &&& Int32.ofInt y = Int32.ofInt (kiand x y) from (Int32.ofInt_toInt _).symm]
  exact h X p l e R s m args below meth c H locs cells slots ls G0 F hc hs hz he hM hS hl hL (fmk ⟨i32_lo _, i32_hi _⟩ hv)
theorem kr_ior {xs : KS} {lay : Bool} {d kc ks j pc : Nat} {L : KL} {st : List KV} {G : KG} {I : KI} {Q : KQ} {n n2 : Nat} {x y : Int} (hd : decode (kMb j) pc = .ok (.ior, 1)) (h : kWP xs lay d kc ks j (pc + 1) L ((0, 0, kior x y) :: st) G I Q) : kWP xs lay d kc ks j pc L ((0, n, y) :: (0, n2, x) :: st) G I Q := by
  intro X p l e R s m args below meth c H locs cells slots ls G0 F hc hs hz he hM hS hl hL hv
  obtain ⟨v1, hv⟩ := fmc hv
  obtain ⟨v2, hv⟩ := fmc hv
  refine lv_ior F.1 F.2.1 hd ?_
  rw [show Int32.ofInt x ||| Int32.ofInt y = Int32.ofInt (kior x y) from (Int32.ofInt_toInt _).symm]
  exact h X p l e R s m args below meth c H locs cells slots ls G0 F hc hs hz he hM hS hl hL (fmk ⟨i32_lo _, i32_hi _⟩ hv)
theorem kr_ixor {xs : KS} {lay : Bool} {d kc ks j pc : Nat} {L : KL} {st : List KV} {G : KG} {I : KI} {Q : KQ} {n n2 : Nat} {x y : Int} (hd : decode (kMb j) pc = .ok (.ixor, 1)) (h : kWP xs lay d kc ks j (pc + 1) L ((0, 0, kixor x y) :: st) G I Q) : kWP xs lay d kc ks j pc L ((0, n, y) :: (0, n2, x) :: st) G I Q := by
  intro X p l e R s m args below meth c H locs cells slots ls G0 F hc hs hz he hM hS hl hL hv
  obtain ⟨v1, hv⟩ := fmc hv
  obtain ⟨v2, hv⟩ := fmc hv
  refine lv_ixor F.1 F.2.1 hd ?_
  rw [show Int32.ofInt x ^^^ Int32.ofInt y = Int32.ofInt (kixor x y) from (Int32.ofInt_toInt _).symm]
  exact h X p l e R s m args below meth c H locs cells slots ls G0 F hc hs hz he hM hS hl hL (fmk ⟨i32_lo _, i32_hi _⟩ hv)
theorem kr_idiv {xs : KS} {lay : Bool} {d kc ks j pc : Nat} {L : KL} {st : List KV} {G : KG} {I : KI} {Q : KQ} {n n2 : Nat} {x y : Int} (hd : decode (kMb j) pc = .ok (.idiv, 1)) (hy : y ≠ 0) (h : kWP xs lay d kc ks j (pc + 1) L ((0, 0, kidiv x y) :: st) G I Q) : kWP xs lay d kc ks j pc L ((0, n, y) :: (0, n2, x) :: st) G I Q := by
  intro X p l e R s m args below meth c H locs cells slots ls G0 F hc hs hz he hM hS hl hL hv
  obtain ⟨v1, hv⟩ := fmc hv
  obtain ⟨v2, hv⟩ := fmc hv
  refine lv_idiv F.1 F.2.1 hd (fun hq => hy ((of32_eq v1.1 v1.2 (by decide) (by decide)).mp (hq.trans (by decide)))) ?_
  rw [show Int32.ofInt x / Int32.ofInt y = Int32.ofInt (kidiv x y) from (Int32.ofInt_toInt _).symm]
  exact h X p l e R s m args below meth c H locs cells slots ls G0 F hc hs hz he hM hS hl hL (fmk ⟨i32_lo _, i32_hi _⟩ hv)
theorem kr_irem {xs : KS} {lay : Bool} {d kc ks j pc : Nat} {L : KL} {st : List KV} {G : KG} {I : KI} {Q : KQ} {n n2 : Nat} {x y : Int} (hd : decode (kMb j) pc = .ok (.irem, 1)) (hy : y ≠ 0) (h : kWP xs lay d kc ks j (pc + 1) L ((0, 0, kirem x y) :: st) G I Q) : kWP xs lay d kc ks j pc L ((0, n, y) :: (0, n2, x) :: st) G I Q := by
  intro X p l e R s m args below meth c H locs cells slots ls G0 F hc hs hz he hM hS hl hL hv
  obtain ⟨v1, hv⟩ := fmc hv
  obtain ⟨v2, hv⟩ := fmc hv
  refine lv_irem F.1 F.2.1 hd (fun hq => hy ((of32_eq v1.1 v1.2 (by decide) (by decide)).mp (hq.trans (by decide)))) ?_
  rw [show Int32.ofInt x - Int32.ofInt x / Int32.ofInt y * Int32.ofInt y = Int32.ofInt (kirem x y) from (Int32.ofInt_toInt _).symm]
  exact h X p l e R s m args below meth c H locs cells slots ls G0 F hc hs hz he hM hS hl hL (fmk ⟨i32_lo _, i32_hi _⟩ hv)
theorem kr_ishl {xs : KS} {lay : Bool} {d kc ks j pc : Nat} {L : KL} {st : List KV} {G : KG} {I : KI} {Q : KQ} {n n2 : Nat} {x y : Int} (hd : decode (kMb j) pc = .ok (.ishl, 1)) (h : kWP xs lay d kc ks j (pc + 1) L ((0, 0, kishl x y) :: st) G I Q) : kWP xs lay d kc ks j pc L ((0, n, y) :: (0, n2, x) :: st) G I Q := by
  intro X p l e R s m args below meth c H locs cells slots ls G0 F hc hs hz he hM hS hl hL hv
  obtain ⟨v1, hv⟩ := fmc hv
  obtain ⟨v2, hv⟩ := fmc hv
  refine lv_ishl F.1 F.2.1 hd ?_
  rw [show Int32.ofInt x <<< (Int32.ofInt y &&& 31) = Int32.ofInt (kishl x y) from (Int32.ofInt_toInt _).symm]
  exact h X p l e R s m args below meth c H locs cells slots ls G0 F hc hs hz he hM hS hl hL (fmk ⟨i32_lo _, i32_hi _⟩ hv)
theorem kr_ishr {xs : KS} {lay : Bool} {d kc ks j pc : Nat} {L : KL} {st : List KV} {G : KG} {I : KI} {Q : KQ} {n n2 : Nat} {x y : Int} (hd : decode (kMb j) pc = .ok (.ishr, 1)) (h : kWP xs lay d kc ks j (pc + 1) L ((0, 0, kishr x y) :: st) G I Q) : kWP xs lay d kc ks j pc L ((0, n, y) :: (0, n2, x) :: st) G I Q := by
  intro X p l e R s m args below meth c H locs cells slots ls G0 F hc hs hz he hM hS hl hL hv
  obtain ⟨v1, hv⟩ := fmc hv
  obtain ⟨v2, hv⟩ := fmc hv
  refine lv_ishr F.1 F.2.1 hd ?_
  rw [show Int32.ofInt x >>> (Int32.ofInt y &&& 31) = Int32.ofInt (kishr x y) from (Int32.ofInt_toInt _).symm]
  exact h X p l e R s m args below meth c H locs cells slots ls G0 F hc hs hz he hM hS hl hL (fmk ⟨i32_lo _, i32_hi _⟩ hv)
theorem kr_iushr {xs : KS} {lay : Bool} {d kc ks j pc : Nat} {L : KL} {st : List KV} {G : KG} {I : KI} {Q : KQ} {n n2 : Nat} {x y : Int} (hd : decode (kMb j) pc = .ok (.iushr, 1)) (h : kWP xs lay d kc ks j (pc + 1) L ((0, 0, kiushr x y) :: st) G I Q) : kWP xs lay d kc ks j pc L ((0, n, y) :: (0, n2, x) :: st) G I Q := by
  intro X p l e R s m args below meth c H locs cells slots ls G0 F hc hs hz he hM hS hl hL hv
  obtain ⟨v1, hv⟩ := fmc hv
  obtain ⟨v2, hv⟩ := fmc hv
  refine lv_iushr (v := Int32.ofInt (kiushr x y)) F.1 F.2.1 hd (Int32.ofInt_toInt _).symm ?_
  exact h X p l e R s m args below meth c H locs cells slots ls G0 F hc hs hz he hM hS hl hL (fmk ⟨i32_lo _, i32_hi _⟩ hv)
theorem kr_ineg {xs : KS} {lay : Bool} {d kc ks j pc : Nat} {L : KL} {st : List KV} {G : KG} {I : KI} {Q : KQ} {n : Nat} {x : Int} (hd : decode (kMb j) pc = .ok (.ineg, 1)) (h : kWP xs lay d kc ks j (pc + 1) L ((0, 0, w32 (-x)) :: st) G I Q) : kWP xs lay d kc ks j pc L ((0, n, x) :: st) G I Q := by
  intro X p l e R s m args below meth c H locs cells slots ls G0 F hc hs hz he hM hS hl hL hv
  obtain ⟨v1, hv⟩ := fmc hv
  refine lv_ineg F.1 F.2.1 hd ?_
  have e := h X p l e R s m args below meth c H locs cells slots ls G0 F hc hs hz he hM hS hl hL (fmk ⟨w32_lo _, w32_hi _⟩ hv)
  simp only [List.map_cons, kcv, ofInt_w32] at e
  first | exact e | (rw [show (-x : Int) = 0 - x by omega, Int32.ofInt_sub] at e; exact e) | (rw [Int32.neg_ofInt]; exact e)
theorem kr_land {xs : KS} {lay : Bool} {d kc ks j pc : Nat} {L : KL} {st : List KV} {G : KG} {I : KI} {Q : KQ} {n n2 : Nat} {x y : Int} (hd : decode (kMb j) pc = .ok (.land, 1)) (h : kWP xs lay d kc ks j (pc + 1) L ((1, 0, kland x y) :: st) G I Q) : kWP xs lay d kc ks j pc L ((1, n, y) :: (1, n2, x) :: st) G I Q := by
  intro X p l e R s m args below meth c H locs cells slots ls G0 F hc hs hz he hM hS hl hL hv
  obtain ⟨v1, hv⟩ := fmc hv
  obtain ⟨v2, hv⟩ := fmc hv
  refine lv_land F.1 F.2.1 hd ?_
  rw [show Int64.ofInt x &&& Int64.ofInt y = Int64.ofInt (kland x y) from (Int64.ofInt_toInt _).symm]
  exact h X p l e R s m args below meth c H locs cells slots ls G0 F hc hs hz he hM hS hl hL (fmk ⟨i64_lo _, i64_hi _⟩ hv)
theorem kr_lor {xs : KS} {lay : Bool} {d kc ks j pc : Nat} {L : KL} {st : List KV} {G : KG} {I : KI} {Q : KQ} {n n2 : Nat} {x y : Int} (hd : decode (kMb j) pc = .ok (.lor, 1)) (h : kWP xs lay d kc ks j (pc + 1) L ((1, 0, klor x y) :: st) G I Q) : kWP xs lay d kc ks j pc L ((1, n, y) :: (1, n2, x) :: st) G I Q := by
  intro X p l e R s m args below meth c H locs cells slots ls G0 F hc hs hz he hM hS hl hL hv
  obtain ⟨v1, hv⟩ := fmc hv
  obtain ⟨v2, hv⟩ := fmc hv
  refine lv_lor F.1 F.2.1 hd ?_
  rw [show Int64.ofInt x ||| Int64.ofInt y = Int64.ofInt (klor x y) from (Int64.ofInt_toInt _).symm]
  exact h X p l e R s m args below meth c H locs cells slots ls G0 F hc hs hz he hM hS hl hL (fmk ⟨i64_lo _, i64_hi _⟩ hv)
theorem kr_lshl {xs : KS} {lay : Bool} {d kc ks j pc : Nat} {L : KL} {st : List KV} {G : KG} {I : KI} {Q : KQ} {n n2 : Nat} {x y : Int} (hd : decode (kMb j) pc = .ok (.lshl, 1)) (h : kWP xs lay d kc ks j (pc + 1) L ((1, 0, klshl x y) :: st) G I Q) : kWP xs lay d kc ks j pc L ((0, n, y) :: (1, n2, x) :: st) G I Q := by
  intro X p l e R s m args below meth c H locs cells slots ls G0 F hc hs hz he hM hS hl hL hv
  obtain ⟨v1, hv⟩ := fmc hv
  obtain ⟨v2, hv⟩ := fmc hv
  refine lv_lshl (v := Int64.ofInt (klshl x y)) F.1 F.2.1 hd (Int64.ofInt_toInt _).symm ?_
  exact h X p l e R s m args below meth c H locs cells slots ls G0 F hc hs hz he hM hS hl hL (fmk ⟨i64_lo _, i64_hi _⟩ hv)
theorem kr_lcmp {xs : KS} {lay : Bool} {d kc ks j pc : Nat} {L : KL} {st : List KV} {G : KG} {I : KI} {Q : KQ} {n n2 : Nat} {x y : Int} (hd : decode (kMb j) pc = .ok (.lcmp, 1)) (h : kWP xs lay d kc ks j (pc + 1) L ((0, 0, klcmp x y) :: st) G I Q) : kWP xs lay d kc ks j pc L ((1, n, y) :: (1, n2, x) :: st) G I Q := by
  intro X p l e R s m args below meth c H locs cells slots ls G0 F hc hs hz he hM hS hl hL hv
  obtain ⟨v1, hv⟩ := fmc hv
  obtain ⟨v2, hv⟩ := fmc hv
  refine W.lcmp F.1 F.2.1 hd ?_
  have ez : lg_cmp (Int64.ofInt x) (Int64.ofInt y) = Int32.ofInt (klcmp x y) := by
    unfold lg_cmp klcmp
    have a1 : (Int64.ofInt x > Int64.ofInt y) ↔ y < x := of64_lt v1.1 v1.2 v2.1 v2.2
    have a2 := of64_eq v2.1 v2.2 v1.1 v1.2
    by_cases c1 : y < x
    · rw [if_pos (a1.mpr c1), if_pos c1]; rfl
    · rw [if_neg (fun z => c1 (a1.mp z)), if_neg c1]
      by_cases c2 : x = y
      · rw [if_pos (a2.mpr c2), if_pos c2]; rfl
      · rw [if_neg (fun z => c2 (a2.mp z)), if_neg c2]; rfl
  rw [ez]
  refine h X p l e R s m args below meth c H locs cells slots ls G0 F hc hs hz he hM hS hl hL (fmk ?_ hv)
  show -2147483648 ≤ klcmp x y ∧ klcmp x y < 2147483648
  unfold klcmp
  split <;> (try split) <;> omega
theorem kr_i2l {xs : KS} {lay : Bool} {d kc ks j pc : Nat} {L : KL} {st : List KV} {G : KG} {I : KI} {Q : KQ} {n : Nat} {x : Int} (hd : decode (kMb j) pc = .ok (.i2l, 1)) (h : kWP xs lay d kc ks j (pc + 1) L ((1, 0, x) :: st) G I Q) : kWP xs lay d kc ks j pc L ((0, n, x) :: st) G I Q := by
  intro X p l e R s m args below meth c H locs cells slots ls G0 F hc hs hz he hM hS hl hL hv
  obtain ⟨v1, hv⟩ := fmc hv
  refine lv_i2l (v := Int64.ofInt x) F.1 F.2.1 hd ?_ ?_
  · have h1 : -2147483648 ≤ x := v1.1
    have h2 : x < 2147483648 := v1.2
    have m1 : Int32.maxValue.toInt = 2147483647 := rfl
    have m2 : Int32.minValue.toInt = -2147483648 := rfl
    show (Int32.ofInt x).toInt64 = Int64.ofInt x
    rw [Int32.toInt64_ofInt (by omega) (by omega)]
  refine h X p l e R s m args below meth c H locs cells slots ls G0 F hc hs hz he hM hS hl hL (fmk ?_ hv)
  have h1 : -2147483648 ≤ x := v1.1
  have h2 : x < 2147483648 := v1.2
  show -9223372036854775808 ≤ x ∧ x < 9223372036854775808
  omega
theorem kr_l2i {xs : KS} {lay : Bool} {d kc ks j pc : Nat} {L : KL} {st : List KV} {G : KG} {I : KI} {Q : KQ} {n : Nat} {x : Int} (hd : decode (kMb j) pc = .ok (.l2i, 1)) (h : kWP xs lay d kc ks j (pc + 1) L ((0, 0, w32 x) :: st) G I Q) : kWP xs lay d kc ks j pc L ((1, n, x) :: st) G I Q := by
  intro X p l e R s m args below meth c H locs cells slots ls G0 F hc hs hz he hM hS hl hL hv
  obtain ⟨v1, hv⟩ := fmc hv
  refine lv_l2i (v := Int32.ofInt (w32 x)) F.1 F.2.1 hd ?_ ?_
  · rw [Int64.toInt32_ofInt, ofInt_w32]
  exact h X p l e R s m args below meth c H locs cells slots ls G0 F hc hs hz he hM hS hl hL (fmk ⟨w32_lo _, w32_hi _⟩ hv)
theorem w8_eq (x : Int) : (Int32.ofInt x).toInt8.toInt32 = Int32.ofInt (w8 x) := by
  rw [Int32.toInt8_ofInt]
  apply Int32.toInt_inj.mp
  rw [Int8.toInt_toInt32, Int8.toInt_ofInt, toInt_of32 (by unfold w8; omega) (by unfold w8; omega)]
  show Int.bmod x 256 = w8 x
  unfold w8
  rw [Int.bmod_def]
  split <;> omega
theorem w16_eq (x : Int) : (Int32.ofInt x).toInt16.toInt32 = Int32.ofInt (w16 x) := by
  rw [Int32.toInt16_ofInt]
  apply Int32.toInt_inj.mp
  rw [Int16.toInt_toInt32, Int16.toInt_ofInt, toInt_of32 (by unfold w16; omega) (by unfold w16; omega)]
  show Int.bmod x 65536 = w16 x
  unfold w16
  rw [Int.bmod_def]
  split <;> omega
theorem kr_i2b {xs : KS} {lay : Bool} {d kc ks j pc : Nat} {L : KL} {st : List KV} {G : KG} {I : KI} {Q : KQ} {n : Nat} {x : Int} (hd : decode (kMb j) pc = .ok (.i2b, 1)) (h : kWP xs lay d kc ks j (pc + 1) L ((0, 0, w8 x) :: st) G I Q) : kWP xs lay d kc ks j pc L ((0, n, x) :: st) G I Q := by
  intro X p l e R s m args below meth c H locs cells slots ls G0 F hc hs hz he hM hS hl hL hv
  obtain ⟨v1, hv⟩ := fmc hv
  refine lv_i2b (v := Int32.ofInt (w8 x)) F.1 F.2.1 hd (w8_eq x) ?_
  refine h X p l e R s m args below meth c H locs cells slots ls G0 F hc hs hz he hM hS hl hL (fmk ?_ hv)
  show -2147483648 ≤ w8 x ∧ w8 x < 2147483648
  unfold w8; omega
theorem kr_i2s {xs : KS} {lay : Bool} {d kc ks j pc : Nat} {L : KL} {st : List KV} {G : KG} {I : KI} {Q : KQ} {n : Nat} {x : Int} (hd : decode (kMb j) pc = .ok (.i2s, 1)) (h : kWP xs lay d kc ks j (pc + 1) L ((0, 0, w16 x) :: st) G I Q) : kWP xs lay d kc ks j pc L ((0, n, x) :: st) G I Q := by
  intro X p l e R s m args below meth c H locs cells slots ls G0 F hc hs hz he hM hS hl hL hv
  obtain ⟨v1, hv⟩ := fmc hv
  refine lv_i2s (v := Int32.ofInt (w16 x)) F.1 F.2.1 hd (w16_eq x) ?_
  refine h X p l e R s m args below meth c H locs cells slots ls G0 F hc hs hz he hM hS hl hL (fmk ?_ hv)
  show -2147483648 ≤ w16 x ∧ w16 x < 2147483648
  unfold w16; omega
theorem kcat1 (X : KX) {v : KV} (h : v.1 ≠ 1) : (kcv X v).category = 1 := by
  have := kcat X v
  rcases lv_cat (kcv X v) with a | a
  · exact a
  · rw [a] at this
    have h1 : v.1 = 1 := by simpa using this.symm
    exact absurd h1 h
theorem kcat2 (X : KX) {v : KV} (h : v.1 = 1) : (kcv X v).category = 2 := by
  have := kcat X v
  rw [h] at this; simpa using this
theorem kr_dup {xs : KS} {lay : Bool} {d kc ks j pc : Nat} {L : KL} {st : List KV} {G : KG} {I : KI} {Q : KQ} {a : KV} (hd : decode (kMb j) pc = .ok (.dup, 1)) (ha : a.1 ≠ 1) (h : kWP xs lay d kc ks j (pc + 1) L (a :: a :: st) G I Q) : kWP xs lay d kc ks j pc L (a :: st) G I Q := by
  intro X p l e R s m args below meth c H locs cells slots ls G0 F hc hs hz he hM hS hl hL hv
  obtain ⟨v1, hv⟩ := fmc hv
  refine lv_dup F.1 F.2.1 hd (kcat1 X ha) ?_
  exact h X p l e R s m args below meth c H locs cells slots ls G0 F hc hs hz he hM hS hl hL (fmk v1 (fmk v1 hv))
theorem kr_pop {xs : KS} {lay : Bool} {d kc ks j pc : Nat} {L : KL} {st : List KV} {G : KG} {I : KI} {Q : KQ} {a : KV} (hd : decode (kMb j) pc = .ok (.pop, 1)) (ha : a.1 ≠ 1) (h : kWP xs lay d kc ks j (pc + 1) L st G I Q) : kWP xs lay d kc ks j pc L (a :: st) G I Q := by
  intro X p l e R s m args below meth c H locs cells slots ls G0 F hc hs hz he hM hS hl hL hv
  obtain ⟨v1, hv⟩ := fmc hv
  refine lv_pop F.1 F.2.1 hd (kcat1 X ha) ?_
  exact h X p l e R s m args below meth c H locs cells slots ls G0 F hc hs hz he hM hS hl hL hv
theorem kr_dup_x1 {xs : KS} {lay : Bool} {d kc ks j pc : Nat} {L : KL} {st : List KV} {G : KG} {I : KI} {Q : KQ} {a b : KV} (hd : decode (kMb j) pc = .ok (.dup_x1, 1)) (ha : a.1 ≠ 1) (hb : b.1 ≠ 1) (h : kWP xs lay d kc ks j (pc + 1) L (a :: b :: a :: st) G I Q) : kWP xs lay d kc ks j pc L (a :: b :: st) G I Q := by
  intro X p l e R s m args below meth c H locs cells slots ls G0 F hc hs hz he hM hS hl hL hv
  obtain ⟨v1, hv⟩ := fmc hv
  obtain ⟨v2, hv⟩ := fmc hv
  refine lv_dup_x1 F.1 F.2.1 hd (kcat1 X ha) (kcat1 X hb) ?_
  exact h X p l e R s m args below meth c H locs cells slots ls G0 F hc hs hz he hM hS hl hL (fmk v1 (fmk v2 (fmk v1 hv)))
theorem kr_dup2 {xs : KS} {lay : Bool} {d kc ks j pc : Nat} {L : KL} {st : List KV} {G : KG} {I : KI} {Q : KQ} {a b : KV} (hd : decode (kMb j) pc = .ok (.dup2, 1)) (ha : a.1 ≠ 1) (hb : b.1 ≠ 1) (h : kWP xs lay d kc ks j (pc + 1) L (a :: b :: a :: b :: st) G I Q) : kWP xs lay d kc ks j pc L (a :: b :: st) G I Q := by
  intro X p l e R s m args below meth c H locs cells slots ls G0 F hc hs hz he hM hS hl hL hv
  obtain ⟨v1, hv⟩ := fmc hv
  obtain ⟨v2, hv⟩ := fmc hv
  refine lv_dup2_11 F.1 F.2.1 hd (kcat1 X ha) (kcat1 X hb) ?_
  exact h X p l e R s m args below meth c H locs cells slots ls G0 F hc hs hz he hM hS hl hL (fmk v1 (fmk v2 (fmk v1 (fmk v2 hv))))
theorem kr_if_eq {xs : KS} {lay : Bool} {d kc ks j pc : Nat} {L : KL} {st : List KV} {G : KG} {I : KI} {Q : KQ} {n2 : Nat} {x : Int} {off : Int} {tgt : Nat} (hd : decode (kMb j) pc = .ok (.ifCond .eq off, 3)) (ht : (pc : Int) + off = (tgt : Int)) (h1 : x = 0 → kWP xs lay d kc ks j tgt L st G I Q) (h2 : x ≠ 0 → kWP xs lay d kc ks j (pc + 3) L st G I Q) : kWP xs lay d kc ks j pc L ((0, n2, x) :: st) G I Q := by
  intro X p l e R s m args below meth c H locs cells slots ls G0 F hc hs hz he hM hS hl hL hv
  obtain ⟨v2, hv⟩ := fmc hv
  have v1 : kval G (0, 0, 0) := ⟨by decide, by decide⟩
  refine lv_if_eq F.1 F.2.1 hd ht (fun hq => ?_) (fun hq => ?_)
  · exact h1 ((of32_eq v2.1 v2.2 v1.1 v1.2).mp hq) X p l e R s m args below meth c H locs cells slots ls G0 F hc hs hz he hM hS hl hL hv
  · exact h2 (fun q => hq ((of32_eq v2.1 v2.2 v1.1 v1.2).mpr q)) X p l e R s m args below meth c H locs cells slots ls G0 F hc hs hz he hM hS hl hL hv
theorem kr_icmp_eq {xs : KS} {lay : Bool} {d kc ks j pc : Nat} {L : KL} {st : List KV} {G : KG} {I : KI} {Q : KQ} {n n2 : Nat} {x y : Int} {off : Int} {tgt : Nat} (hd : decode (kMb j) pc = .ok (.if_icmp .eq off, 3)) (ht : (pc : Int) + off = (tgt : Int)) (h1 : x = y → kWP xs lay d kc ks j tgt L st G I Q) (h2 : x ≠ y → kWP xs lay d kc ks j (pc + 3) L st G I Q) : kWP xs lay d kc ks j pc L ((0, n, y) :: (0, n2, x) :: st) G I Q := by
  intro X p l e R s m args below meth c H locs cells slots ls G0 F hc hs hz he hM hS hl hL hv
  obtain ⟨v1, hv⟩ := fmc hv
  obtain ⟨v2, hv⟩ := fmc hv
  refine lv_icmp_eq F.1 F.2.1 hd ht (fun hq => ?_) (fun hq => ?_)
  · exact h1 ((of32_eq v2.1 v2.2 v1.1 v1.2).mp hq) X p l e R s m args below meth c H locs cells slots ls G0 F hc hs hz he hM hS hl hL hv
  · exact h2 (fun q => hq ((of32_eq v2.1 v2.2 v1.1 v1.2).mpr q)) X p l e R s m args below meth c H locs cells slots ls G0 F hc hs hz he hM hS hl hL hv
theorem kr_if_ne {xs : KS} {lay : Bool} {d kc ks j pc : Nat} {L : KL} {st : List KV} {G : KG} {I : KI} {Q : KQ} {n2 : Nat} {x : Int} {off : Int} {tgt : Nat} (hd : decode (kMb j) pc = .ok (.ifCond .ne off, 3)) (ht : (pc : Int) + off = (tgt : Int)) (h1 : x ≠ 0 → kWP xs lay d kc ks j tgt L st G I Q) (h2 : x = 0 → kWP xs lay d kc ks j (pc + 3) L st G I Q) : kWP xs lay d kc ks j pc L ((0, n2, x) :: st) G I Q := by
  intro X p l e R s m args below meth c H locs cells slots ls G0 F hc hs hz he hM hS hl hL hv
  obtain ⟨v2, hv⟩ := fmc hv
  have v1 : kval G (0, 0, 0) := ⟨by decide, by decide⟩
  refine lv_if_ne F.1 F.2.1 hd ht (fun hq => ?_) (fun hq => ?_)
  · exact h1 (fun q => hq ((of32_eq v2.1 v2.2 v1.1 v1.2).mpr q)) X p l e R s m args below meth c H locs cells slots ls G0 F hc hs hz he hM hS hl hL hv
  · exact h2 ((of32_eq v2.1 v2.2 v1.1 v1.2).mp hq) X p l e R s m args below meth c H locs cells slots ls G0 F hc hs hz he hM hS hl hL hv
theorem kr_icmp_ne {xs : KS} {lay : Bool} {d kc ks j pc : Nat} {L : KL} {st : List KV} {G : KG} {I : KI} {Q : KQ} {n n2 : Nat} {x y : Int} {off : Int} {tgt : Nat} (hd : decode (kMb j) pc = .ok (.if_icmp .ne off, 3)) (ht : (pc : Int) + off = (tgt : Int)) (h1 : x ≠ y → kWP xs lay d kc ks j tgt L st G I Q) (h2 : x = y → kWP xs lay d kc ks j (pc + 3) L st G I Q) : kWP xs lay d kc ks j pc L ((0, n, y) :: (0, n2, x) :: st) G I Q := by
  intro X p l e R s m args below meth c H locs cells slots ls G0 F hc hs hz he hM hS hl hL hv
  obtain ⟨v1, hv⟩ := fmc hv
  obtain ⟨v2, hv⟩ := fmc hv
  refine lv_icmp_ne F.1 F.2.1 hd ht (fun hq => ?_) (fun hq => ?_)
  · exact h1 (fun q => hq ((of32_eq v2.1 v2.2 v1.1 v1.2).mpr q)) X p l e R s m args below meth c H locs cells slots ls G0 F hc hs hz he hM hS hl hL hv
  · exact h2 ((of32_eq v2.1 v2.2 v1.1 v1.2).mp hq) X p l e R s m args below meth c H locs cells slots ls G0 F hc hs hz he hM hS hl hL hv
theorem kr_if_lt {xs : KS} {lay : Bool} {d kc ks j pc : Nat} {L : KL} {st : List KV} {G : KG} {I : KI} {Q : KQ} {n2 : Nat} {x : Int} {off : Int} {tgt : Nat} (hd : decode (kMb j) pc = .ok (.ifCond .lt off, 3)) (ht : (pc : Int) + off = (tgt : Int)) (h1 : x < 0 → kWP xs lay d kc ks j tgt L st G I Q) (h2 : 0 ≤ x → kWP xs lay d kc ks j (pc + 3) L st G I Q) : kWP xs lay d kc ks j pc L ((0, n2, x) :: st) G I Q := by
  intro X p l e R s m args below meth c H locs cells slots ls G0 F hc hs hz he hM hS hl hL hv
  obtain ⟨v2, hv⟩ := fmc hv
  have v1 : kval G (0, 0, 0) := ⟨by decide, by decide⟩
  refine lv_if_lt F.1 F.2.1 hd ht (fun hq => ?_) (fun hq => ?_)
  · exact h1 ((of32_lt v2.1 v2.2 v1.1 v1.2).mp hq) X p l e R s m args below meth c H locs cells slots ls G0 F hc hs hz he hM hS hl hL hv
  · exact h2 (Int.not_lt.mp (fun q => hq ((of32_lt v2.1 v2.2 v1.1 v1.2).mpr q))) X p l e R s m args below meth c H locs cells slots ls G0 F hc hs hz he hM hS hl hL hv
theorem kr_icmp_lt {xs : KS} {lay : Bool} {d kc ks j pc : Nat} {L : KL} {st : List KV} {G : KG} {I : KI} {Q : KQ} {n n2 : Nat} {x y : Int} {off : Int} {tgt : Nat} (hd : decode (kMb j) pc = .ok (.if_icmp .lt off, 3)) (ht : (pc : Int) + off = (tgt : Int)) (h1 : x < y → kWP xs lay d kc ks j tgt L st G I Q) (h2 : y ≤ x → kWP xs lay d kc ks j (pc + 3) L st G I Q) : kWP xs lay d kc ks j pc L ((0, n, y) :: (0, n2, x) :: st) G I Q := by
  intro X p l e R s m args below meth c H locs cells slots ls G0 F hc hs hz he hM hS hl hL hv
  obtain ⟨v1, hv⟩ := fmc hv
  obtain ⟨v2, hv⟩ := fmc hv
  refine lv_icmp_lt F.1 F.2.1 hd ht (fun hq => ?_) (fun hq => ?_)
  · exact h1 ((of32_lt v2.1 v2.2 v1.1 v1.2).mp hq) X p l e R s m args below meth c H locs cells slots ls G0 F hc hs hz he hM hS hl hL hv
  · exact h2 (Int.not_lt.mp (fun q => hq ((of32_lt v2.1 v2.2 v1.1 v1.2).mpr q))) X p l e R s m args below meth c H locs cells slots ls G0 F hc hs hz he hM hS hl hL hv
theorem kr_if_ge {xs : KS} {lay : Bool} {d kc ks j pc : Nat} {L : KL} {st : List KV} {G : KG} {I : KI} {Q : KQ} {n2 : Nat} {x : Int} {off : Int} {tgt : Nat} (hd : decode (kMb j) pc = .ok (.ifCond .ge off, 3)) (ht : (pc : Int) + off = (tgt : Int)) (h1 : 0 ≤ x → kWP xs lay d kc ks j tgt L st G I Q) (h2 : x < 0 → kWP xs lay d kc ks j (pc + 3) L st G I Q) : kWP xs lay d kc ks j pc L ((0, n2, x) :: st) G I Q := by
  intro X p l e R s m args below meth c H locs cells slots ls G0 F hc hs hz he hM hS hl hL hv
  obtain ⟨v2, hv⟩ := fmc hv
  have v1 : kval G (0, 0, 0) := ⟨by decide, by decide⟩
  refine lv_if_ge F.1 F.2.1 hd ht (fun hq => ?_) (fun hq => ?_)
  · exact h1 ((of32_le v1.1 v1.2 v2.1 v2.2).mp hq) X p l e R s m args below meth c H locs cells slots ls G0 F hc hs hz he hM hS hl hL hv
  · exact h2 (Int.not_le.mp (fun q => hq ((of32_le v1.1 v1.2 v2.1 v2.2).mpr q))) X p l e R s m args below meth c H locs cells slots ls G0 F hc hs hz he hM hS hl hL hv
theorem kr_icmp_ge {xs : KS} {lay : Bool} {d kc ks j pc : Nat} {L : KL} {st : List KV} {G : KG} {I : KI} {Q : KQ} {n n2 : Nat} {x y : Int} {off : Int} {tgt : Nat} (hd : decode (kMb j) pc = .ok (.if_icmp .ge off, 3)) (ht : (pc : Int) + off = (tgt : Int)) (h1 : y ≤ x → kWP xs lay d kc ks j tgt L st G I Q) (h2 : x < y → kWP xs lay d kc ks j (pc + 3) L st G I Q) : kWP xs lay d kc ks j pc L ((0, n, y) :: (0, n2, x) :: st) G I Q := by
  intro X p l e R s m args below meth c H locs cells slots ls G0 F hc hs hz he hM hS hl hL hv
  obtain ⟨v1, hv⟩ := fmc hv
  obtain ⟨v2, hv⟩ := fmc hv
  refine lv_icmp_ge F.1 F.2.1 hd ht (fun hq => ?_) (fun hq => ?_)
  · exact h1 ((of32_le v1.1 v1.2 v2.1 v2.2).mp hq) X p l e R s m args below meth c H locs cells slots ls G0 F hc hs hz he hM hS hl hL hv
  · exact h2 (Int.not_le.mp (fun q => hq ((of32_le v1.1 v1.2 v2.1 v2.2).mpr q))) X p l e R s m args below meth c H locs cells slots ls G0 F hc hs hz he hM hS hl hL hv
theorem kr_if_gt {xs : KS} {lay : Bool} {d kc ks j pc : Nat} {L : KL} {st : List KV} {G : KG} {I : KI} {Q : KQ} {n2 : Nat} {x : Int} {off : Int} {tgt : Nat} (hd : decode (kMb j) pc = .ok (.ifCond .gt off, 3)) (ht : (pc : Int) + off = (tgt : Int)) (h1 : 0 < x → kWP xs lay d kc ks j tgt L st G I Q) (h2 : x ≤ 0 → kWP xs lay d kc ks j (pc + 3) L st G I Q) : kWP xs lay d kc ks j pc L ((0, n2, x) :: st) G I Q := by
  intro X p l e R s m args below meth c H locs cells slots ls G0 F hc hs hz he hM hS hl hL hv
  obtain ⟨v2, hv⟩ := fmc hv
  have v1 : kval G (0, 0, 0) := ⟨by decide, by decide⟩
  refine lv_if_gt F.1 F.2.1 hd ht (fun hq => ?_) (fun hq => ?_)
  · exact h1 ((of32_lt v1.1 v1.2 v2.1 v2.2).mp hq) X p l e R s m args below meth c H locs cells slots ls G0 F hc hs hz he hM hS hl hL hv
  · exact h2 (Int.not_lt.mp (fun q => hq ((of32_lt v1.1 v1.2 v2.1 v2.2).mpr q))) X p l e R s m args below meth c H locs cells slots ls G0 F hc hs hz he hM hS hl hL hv
theorem kr_icmp_gt {xs : KS} {lay : Bool} {d kc ks j pc : Nat} {L : KL} {st : List KV} {G : KG} {I : KI} {Q : KQ} {n n2 : Nat} {x y : Int} {off : Int} {tgt : Nat} (hd : decode (kMb j) pc = .ok (.if_icmp .gt off, 3)) (ht : (pc : Int) + off = (tgt : Int)) (h1 : y < x → kWP xs lay d kc ks j tgt L st G I Q) (h2 : x ≤ y → kWP xs lay d kc ks j (pc + 3) L st G I Q) : kWP xs lay d kc ks j pc L ((0, n, y) :: (0, n2, x) :: st) G I Q := by
  intro X p l e R s m args below meth c H locs cells slots ls G0 F hc hs hz he hM hS hl hL hv
  obtain ⟨v1, hv⟩ := fmc hv
  obtain ⟨v2, hv⟩ := fmc hv
  refine lv_icmp_gt F.1 F.2.1 hd ht (fun hq => ?_) (fun hq => ?_)
  · exact h1 ((of32_lt v1.1 v1.2 v2.1 v2.2).mp hq) X p l e R s m args below meth c H locs cells slots ls G0 F hc hs hz he hM hS hl hL hv
  · exact h2 (Int.not_lt.mp (fun q => hq ((of32_lt v1.1 v1.2 v2.1 v2.2).mpr q))) X p l e R s m args below meth c H locs cells slots ls G0 F hc hs hz he hM hS hl hL hv
theorem kr_if_le {xs : KS} {lay : Bool} {d kc ks j pc : Nat} {L : KL} {st : List KV} {G : KG} {I : KI} {Q : KQ} {n2 : Nat} {x : Int} {off : Int} {tgt : Nat} (hd : decode (kMb j) pc = .ok (.ifCond .le off, 3)) (ht : (pc : Int) + off = (tgt : Int)) (h1 : x ≤ 0 → kWP xs lay d kc ks j tgt L st G I Q) (h2 : 0 < x → kWP xs lay d kc ks j (pc + 3) L st G I Q) : kWP xs lay d kc ks j pc L ((0, n2, x) :: st) G I Q := by
  intro X p l e R s m args below meth c H locs cells slots ls G0 F hc hs hz he hM hS hl hL hv
  obtain ⟨v2, hv⟩ := fmc hv
  have v1 : kval G (0, 0, 0) := ⟨by decide, by decide⟩
  refine lv_if_le F.1 F.2.1 hd ht (fun hq => ?_) (fun hq => ?_)
  · exact h1 ((of32_le v2.1 v2.2 v1.1 v1.2).mp hq) X p l e R s m args below meth c H locs cells slots ls G0 F hc hs hz he hM hS hl hL hv
  · exact h2 (Int.not_le.mp (fun q => hq ((of32_le v2.1 v2.2 v1.1 v1.2).mpr q))) X p l e R s m args below meth c H locs cells slots ls G0 F hc hs hz he hM hS hl hL hv
theorem kr_icmp_le {xs : KS} {lay : Bool} {d kc ks j pc : Nat} {L : KL} {st : List KV} {G : KG} {I : KI} {Q : KQ} {n n2 : Nat} {x y : Int} {off : Int} {tgt : Nat} (hd : decode (kMb j) pc = .ok (.if_icmp .le off, 3)) (ht : (pc : Int) + off = (tgt : Int)) (h1 : x ≤ y → kWP xs lay d kc ks j tgt L st G I Q) (h2 : y < x → kWP xs lay d kc ks j (pc + 3) L st G I Q) : kWP xs lay d kc ks j pc L ((0, n, y) :: (0, n2, x) :: st) G I Q := by
  intro X p l e R s m args below meth c H locs cells slots ls G0 F hc hs hz he hM hS hl hL hv
  obtain ⟨v1, hv⟩ := fmc hv
  obtain ⟨v2, hv⟩ := fmc hv
  refine lv_icmp_le F.1 F.2.1 hd ht (fun hq => ?_) (fun hq => ?_)
  · exact h1 ((of32_le v2.1 v2.2 v1.1 v1.2).mp hq) X p l e R s m args below meth c H locs cells slots ls G0 F hc hs hz he hM hS hl hL hv
  · exact h2 (Int.not_le.mp (fun q => hq ((of32_le v2.1 v2.2 v1.1 v1.2).mpr q))) X p l e R s m args below meth c H locs cells slots ls G0 F hc hs hz he hM hS hl hL hv
theorem kr_goto {xs : KS} {lay : Bool} {d kc ks j pc : Nat} {L : KL} {st : List KV} {G : KG} {I : KI} {Q : KQ} {off : Int} {tgt : Nat} (hd : decode (kMb j) pc = .ok (.goto off, 3)) (ht : (pc : Int) + off = (tgt : Int)) (h : kWP xs lay d kc ks j tgt L st G I Q) : kWP xs lay d kc ks j pc L st G I Q := by
  intro X p l e R s m args below meth c H locs cells slots ls G0 F hc hs hz he hM hS hl hL hv
  refine lv_goto F.1 F.2.1 hd ht ?_
  exact h X p l e R s m args below meth c H locs cells slots ls G0 F hc hs hz he hM hS hl hL hv
theorem kr_ifnonnull {xs : KS} {lay : Bool} {d kc ks j pc : Nat} {L : KL} {st : List KV} {G : KG} {I : KI} {Q : KQ} {t n : Nat} {x : Int} {off : Int} {tgt : Nat} (hd : decode (kMb j) pc = .ok (.ifnonnull off, 3)) (ht : (pc : Int) + off = (tgt : Int)) (h1 : 3 ≤ t → kWP xs lay d kc ks j tgt L st G I Q) (h2 : t = 2 → kWP xs lay d kc ks j (pc + 3) L st G I Q) (ht2 : 2 ≤ t) : kWP xs lay d kc ks j pc L ((t, n, x) :: st) G I Q := by
  intro X p l e R s m args below meth c H locs cells slots ls G0 F hc hs hz he hM hS hl hL hv
  obtain ⟨v1, hw⟩ := fmc hv
  rcases kt3 ht2 with rfl | rfl | ⟨u, rfl⟩
  · exact lv_ifnonnullN F.1 F.2.1 hd (h2 rfl X p l e R s m args below meth c H locs cells slots ls G0 F hc hs hz he hM hS hl hL hw)
  · exact lv_ifnonnull F.1 F.2.1 hd ht (h1 (by omega) X p l e R s m args below meth c H locs cells slots ls G0 F hc hs hz he hM hS hl hL hw)
  · exact lv_ifnonnull F.1 F.2.1 hd ht (h1 (by omega) X p l e R s m args below meth c H locs cells slots ls G0 F hc hs hz he hM hS hl hL hw)
theorem kr_tableIn {xs : KS} {lay : Bool} {d kc ks j pc : Nat} {L : KL} {st : List KV} {G : KG} {I : KI} {Q : KQ} {n : Nat} {x dflt lo hi off : Int} {offs : Array Int} {len tgt : Nat} (hd : decode (kMb j) pc = .ok (.tableswitch dflt lo hi offs, len)) (ha : lo ≤ x) (hb : x ≤ hi) (ho : offs[(x - lo).toNat]? = some off) (ht : (pc : Int) + off = (tgt : Int)) (h : kWP xs lay d kc ks j tgt L st G I Q) : kWP xs lay d kc ks j pc L ((0, n, x) :: st) G I Q := by
  intro X p l e R s m args below meth c H locs cells slots ls G0 F hc hs hz he hM hS hl hL hv
  obtain ⟨v1, hv⟩ := fmc hv
  have ex : (Int32.ofInt x).toInt = x := toInt_of32 v1.1 v1.2
  refine lv_tableIn F.1 F.2.1 hd (by rw [ex]; omega) (by rw [ex]; omega) (by rw [ex]; exact ho) ht ?_
  exact h X p l e R s m args below meth c H locs cells slots ls G0 F hc hs hz he hM hS hl hL hv
theorem kr_tableOut {xs : KS} {lay : Bool} {d kc ks j pc : Nat} {L : KL} {st : List KV} {G : KG} {I : KI} {Q : KQ} {n : Nat} {x dflt lo hi : Int} {offs : Array Int} {len tgt : Nat} (hd : decode (kMb j) pc = .ok (.tableswitch dflt lo hi offs, len)) (ha : x < lo ∨ hi < x) (ht : (pc : Int) + dflt = (tgt : Int)) (h : kWP xs lay d kc ks j tgt L st G I Q) : kWP xs lay d kc ks j pc L ((0, n, x) :: st) G I Q := by
  intro X p l e R s m args below meth c H locs cells slots ls G0 F hc hs hz he hM hS hl hL hv
  obtain ⟨v1, hv⟩ := fmc hv
  have ex : (Int32.ofInt x).toInt = x := toInt_of32 v1.1 v1.2
  refine lv_tableOut F.1 F.2.1 hd (by rw [ex]; exact ha) ht ?_
  exact h X p l e R s m args below meth c H locs cells slots ls G0 F hc hs hz he hM hS hl hL hv
theorem kr_lookup {xs : KS} {lay : Bool} {d kc ks j pc : Nat} {L : KL} {st : List KV} {G : KG} {I : KI} {Q : KQ} {n : Nat} {x dflt off : Int} {ps : Array (Int × Int)} {len tgt : Nat} (hd : decode (kMb j) pc = .ok (.lookupswitch dflt ps, len)) (hp : (ps.toList.zip (ps.toList.drop 1)).all (fun (a, next) => a.1 < next.1) = true) (ho : Op.lookupswitch.offset ps.toList dflt x = off) (ht : (pc : Int) + off = (tgt : Int)) (h : kWP xs lay d kc ks j tgt L st G I Q) : kWP xs lay d kc ks j pc L ((0, n, x) :: st) G I Q := by
  intro X p l e R s m args below meth c H locs cells slots ls G0 F hc hs hz he hM hS hl hL hv
  obtain ⟨v1, hv⟩ := fmc hv
  have ex : (Int32.ofInt x).toInt = x := toInt_of32 v1.1 v1.2
  refine lv_lookup F.1 F.2.1 hd hp (by rw [ex]; exact ho) ht ?_
  exact h X p l e R s m args below meth c H locs cells slots ls G0 F hc hs hz he hM hS hl hL hv
