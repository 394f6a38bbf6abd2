/-! THE WORLD AND THE JUDGEMENT: kWP: from here the method runs to its end with Q of its answer and the world behind it -/
def krf (X : KX) (r : Int) : Option Nat := if r < 0 then none else some (X.1 + r.toNat)
def kfv (X : KX) (G : KG) (I : KI) (a : Int) (ci k : Nat) : Value := if kFt ci k < 4 then .int (Int32.ofInt (I a k)) else va_rf (krf X (G.2.2 a k))
def kcell (X : KX) (G : KG) (I : KI) (a : Int) : va_E :=
  if 10 ≤ (G.2.1 a).1 then .inr ((G.2.1 a).1 - 10, (List.range (G.2.1 a).2).map (fun k => kfv X G I a ((G.2.1 a).1 - 10) k))
  else if (G.2.1 a).1 = 5 then .inl (X.2.2.1 5, (G.2.1 a).2, .inr (.inl (fun j => Int64.ofInt (I a j))))
  else if (G.2.1 a).1 < 8 then .inl (X.2.2.1 (G.2.1 a).1, (G.2.1 a).2, .inl (fun j => Int32.ofInt (I a j)))
  else .inl (X.2.2.1 (G.2.1 a).1, (G.2.1 a).2, .inr (.inr (.inr (.inr (fun j => krf X (G.2.2 a j))))))
def kws (X : KX) (G : KG) (I : KI) : va_W := (List.range G.1).map (fun a => (X.1 + a, kcell X G I a))
def kek (t k : Nat) : Nat := if 10 ≤ t then kFt (t - 10) k else match t with
  | 4 => 0
  | 5 => 1
  | 6 => 3
  | 7 => 2
  | 8 => 13
  | _ => 15
def kval (G : KG) (v : KV) : Prop := match v.1 with
  | 0 => -2147483648 ≤ v.2.2 ∧ v.2.2 < 2147483648
  | 1 => -9223372036854775808 ≤ v.2.2 ∧ v.2.2 < 9223372036854775808
  | 2 => True
  | 3 => 0 ≤ v.2.2 ∧ v.2.2 < 4
  | t => 0 ≤ v.2.2 ∧ v.2.2 < G.1 ∧ (G.2.1 v.2.2).1 = t ∧ (t < 10 → (G.2.1 v.2.2).2 = v.2.1)
def kgood (G : KG) (kd : Nat) (x r : Int) : Prop := match kd with
  | 0 => -2147483648 ≤ x ∧ x < 2147483648
  | 1 => -9223372036854775808 ≤ x ∧ x < 9223372036854775808
  | 2 => 0 ≤ x ∧ x ≤ 1
  | 3 => -128 ≤ x ∧ x ≤ 127
  | t => r < 0 ∨ (r < G.1 ∧ (G.2.1 r).1 = t)
def kMem (G : KG) (I : KI) : Prop := ∀ a : Nat, a < G.1 → ∀ k : Nat, k < (G.2.1 a).2 → kgood G (kek (G.2.1 a).1 k) (I a k) (G.2.2 a k)
def kSh (G : KG) : Prop := ∀ a : Nat, a < G.1 → 4 ≤ (G.2.1 a).1 ∧ (G.2.1 a).1 < 20 ∧ (G.2.1 a).2 < 2147483648 ∧ (10 ≤ (G.2.1 a).1 → (G.2.1 a).2 = kNf ((G.2.1 a).1 - 10))
/-- where a cell's own cells lie, behind the cell, and how long they are: of what is made once and never changed -/
def kOff (t k : Nat) : Option (Nat × Nat) := match t with
  | 8 => some (39 + 4 * k, 0)
  | 9 => some (49 + 2 * k, 0)
  | 10 => match k with
    | 0 => some (1, 40)
    | _ => none
  | 11 => match k with
    | 0 => some (1, 120)
    | _ => none
  | 12 => match k with
    | 0 => some (1, 50)
    | 2 => some (2, 24)
    | _ => none
  | 13 => match k with
    | 0 => some (1, 14)
    | 1 => some (2, 14)
    | 2 => some (3, 43)
    | _ => none
  | 14 => match k with
    | 0 => some (1, 0)
    | 1 => some (3, 0)
    | 2 => some (7, 0)
    | 3 => some (13, 6)
    | 4 => some (14, 509)
    | _ => none
  | 15 => match k with
    | 0 => some (1, 60)
    | _ => none
  | 16 => match k with
    | 0 => some (1, 128)
    | 1 => some (2, 14)
    | 2 => some (3, 14)
    | 3 => some (4, 64)
    | 6 => some (5, 43)
    | _ => none
  | 17 => match k with
    | 0 => some (1, 5504)
    | _ => none
  | 18 => match k with
    | 0 => some (1, 120)
    | 2 => some (2, 12)
    | 4 => some (3, 0)
    | 5 => some (7, 0)
    | 6 => some (11, 0)
    | 7 => some (17, 7)
    | 8 => some (18, 0)
    | 9 => some (20, 0)
    | 10 => some (35, 0)
    | 11 => some (37, 0)
    | 12 => some (40, 6)
    | _ => none
  | 19 => match k with
    | 1 => some (1, 12)
    | 2 => some (2, 168)
    | 3 => some (3, 168)
    | 4 => some (4, 84)
    | 6 => some (5, 14)
    | 7 => some (6, 14)
    | 8 => some (7, 7)
    | 9 => some (8, 8)
    | 10 => some (9, 7)
    | 11 => some (10, 28)
    | 12 => some (11, 4)
    | 13 => some (12, 121)
    | 14 => some (13, 14)
    | 15 => some (14, 121)
    | 16 => some (15, 120)
    | 18 => some (16, 120)
    | 25 => some (17, 5)
    | 26 => some (18, 7)
    | 28 => some (19, 7)
    | 31 => some (20, 40)
    | 34 => some (21, 15488)
    | 38 => some (22, 50)
    | 39 => some (23, 24)
    | 43 => some (24, 6)
    | 44 => some (25, 6)
    | 45 => some (26, 360)
    | 46 => some (27, 60)
    | _ => none
  | _ => none
/-- the one field that comes to hold another row: Law.text -/
def kMut (t k : Nat) : Bool := Nat.beq t 11 && Nat.beq k 2
def kRC (G : KG) : Prop := ∀ a : Nat, a < G.1 → ∀ k : Nat, k < (G.2.1 a).2 → (∀ o, kOff (G.2.1 a).1 k = some o → G.2.2 a k = a + o.1 ∧ kval G (kek (G.2.1 a).1 k, o.2, (a + o.1 : Int))) ∧ (kMut (G.2.1 a).1 k = true → kval G (6, 120, G.2.2 a k))
def kA (X : KX) : Nat → Prop := fun q => X.1 ≤ q
def kSim (X : KX) (lay : Bool) (G : KG) (I : KI) (H : Heap) : Prop := va_P X.2.1 kcl (kws X G I) H ∧ kSh G ∧ kMem G I ∧ (lay = true → kRC G)
abbrev ktys (X : KX) : List (ClassId × FieldType) := [(X.2.2.1 4, .int), (X.2.2.1 5, .long), (X.2.2.1 6, .byte), (X.2.2.1 7, .boolean), (X.2.2.1 8, .object RX3), (X.2.2.1 9, .object RX5)]
def kNest : List Cond := tables_1.filter (fun w => match w with
  | .methodLinkNest _ _ _ _ => true
  | _ => false)
def kStN (i : Nat) : String × String := match i with
  | 0 => (RX6, "CHOOSE")
  | 1 => (RX2, "ABOVE")
  | _ => (RX2, "OWN")
def kWorld (xs : KS) (X : KX) (U : State) : Prop :=
  va_K X.2.1 kcl (ktys X) U ∧ ((∀ w ∈ kNest, va_Nw w U) ∧ va_AO RX3 U ∧ va_AO RX5 U) ∧ (∀ i, i < 3 → va_Z (kStN i).1 (kStN i).2 "[I" (.ref (X.2.2.2 i)) (kA X) U U.heap) ∧
  (∀ i, i < 4 → va_T .int (X.2.2.2 i) (xs i).1 (fun j => .int (Int32.ofInt ((xs i).2 j))) (kA X) U U.heap)
def kXs (xs : KS) : Prop := ∀ i, i < 4 → (xs i).1 < 2147483648 ∧ ∀ j : Nat, j < (xs i).1 → -2147483648 ≤ (xs i).2 j ∧ (xs i).2 j < 2147483648
def kFix (xs : KS) (X : KX) (j d : Nat) (p : Program) (R : Room) (s : State) (m : MethodId) (args : Array Value) (meth : Method) (c : Code) : Prop :=
  p.tables.exec = Jvm.exec ∧ c.code = kMb j ∧ c.maxLocals = kMl j ∧ s.vm.findClass (kMy j).cls = some m.cls ∧ meth.sig.returnType = kMr j ∧ meth.locks = false ∧
  (kMk j = 2 → meth.name = "<init>") ∧ (∀ w ∈ kWords, w.before args s = true) ∧ d + 1 ≤ R.frames ∧ 60 * (d + 1) ≤ R.locals ∧ kWorld xs X s ∧ kXs xs ∧ X.1 ≤ s.heap.size
def kout (X : KX) (j : Nat) (v : KV) : Option Value := match kMr j with
  | none => none
  | some _ => some (kcv X v)
def kExt (G G' : KG) : Prop := G.1 ≤ G'.1 ∧ ∀ a : Int, 0 ≤ a → a < G.1 → G'.2.1 a = G.2.1 a
abbrev KQ : Type := Int → KG → KI → Prop
/-- the sort of a method's answer -/
def kRt (j : Nat) : Nat := match kMr j with
  | none => 2
  | some .int => 0
  | some .boolean => 0
  | some .long => 1
  | _ => 4
def kRn (j : Nat) : Nat := match kMr j with
  | some (.array _) => 43
  | _ => 0
def kQ (X : KX) (j : Nat) (lay : Bool) (N : Nat) (G0 : KG) (Q : KQ) : Array Value → State → Outcome → State → Prop := fun _ st oc t =>
  (∃ (x : Int) (G' : KG) (I' : KI), oc = .returned (kout X j (kRt j, kRn j, x)) ∧ Q x G' I' ∧ kSim X lay G' I' t.heap ∧ X.1 + G'.1 = N ∧ kExt G0 G' ∧ kval G' (kRt j, kRn j, x)) ∧ va_F (kA X) st t
def kWP (xs : KS) (lay : Bool) (d kc ks j pc : Nat) (L : KL) (st : List KV) (G : KG) (I : KI) (Q : KQ) : Prop :=
  ∀ (X : KX) (p : Program) (l : Launch) (e : Env) (R : Room) (s : State) (m : MethodId) (args : Array Value) (below : List Frame) (meth : Method) (c : Code) (H : Heap) (locs : List Loc) (cells slots : Nat) (ls : Array Slot) (G0 : KG),
    kFix xs X j d p R s m args meth c → cells + kc ≤ R.cells → slots + ks ≤ R.slots → s.heap.size + cells = X.1 + G.1 → kExt G0 G → kSim X lay G I H → va_S (kA X) s.heap H locs →
    lv_has ls (kMl j) (L.map (fun q => (q.1, kcv X q.2))) → (∀ q ∈ L, kval G q.2) → (∀ v ∈ st, kval G v) →
    W p l e R s m args below meth c H locs cells slots (MQ below (kQ X j lay (s.heap.size + cells + kc) G0 Q) args s (cells + kc) (slots + ks) (kA X)) (F0 m pc ls (st.map (kcv X)))
theorem kExt.rf (G : KG) : kExt G G := ⟨Nat.le_refl _, fun _ _ _ => rfl⟩
theorem kExt.tr {A B C : KG} (h : kExt A B) (g : kExt B C) : kExt A C := ⟨Nat.le_trans h.1 g.1, fun a h0 h1 => by rw [g.2 a h0 (by have := h.1; omega), h.2 a h0 h1]⟩
theorem kval.ext {A B : KG} (h : kExt A B) {v : KV} (hv : kval A v) : kval B v := by
  unfold kval at hv ⊢
  split <;> simp_all
  refine ⟨by have := h.1; omega, ?_⟩
  rw [h.2 _ hv.1 hv.2.1]; exact hv.2.2
theorem W.imp {p : Program} {l : Launch} {e : Env} {R : Room} {s : State} {m : MethodId} {args : Array Value} {below : List Frame} {meth : Method} {c : Code} {H : Heap} {locs : List Loc} {cells slots : Nat} {Q Q' : State → Prop} {g : JFrame} (h : ∀ t, Q t → Q' t) (k : W p l e R s m args below meth c H locs cells slots Q g) : W p l e R s m args below meth c H locs cells slots Q' g := by
  intro T hT X
  obtain ⟨t, a, b⟩ := k T hT X
  exact ⟨t, a, h t b⟩
theorem MQ.imp {below : List Frame} {Qc Qd : Array Value → State → Outcome → State → Prop} {a : Array Value} {s : State} {mc ms : Nat} {free : Addr → Prop} (h : ∀ o t, Qc a s o t → Qd a s o t) : ∀ t, MQ below Qc a s mc ms free t → MQ below Qd a s mc ms free t := by
  intro t ⟨o, h1, h2, h3, h4⟩
  exact ⟨o, h1, h2, h _ _ h3, h4⟩
theorem kWP.imp {xs : KS} {lay : Bool} {d kc ks j pc : Nat} {L : KL} {st : List KV} {G : KG} {I : KI} {Q Q' : KQ} (h : kWP xs lay d kc ks j pc L st G I Q) (hQ : ∀ v G' I', Q v G' I' → Q' v G' I') : kWP xs lay d kc ks j pc L st G I Q' := by
  intro X p l e R s m args below meth c H locs cells slots ls G0 F hc hs hz he hM hS hl hL hv
  refine W.imp (MQ.imp fun o t hq => ?_) (h X p l e R s m args below meth c H locs cells slots ls G0 F hc hs hz he hM hS hl hL hv)
  obtain ⟨⟨v, G', I', h1, h2, h3⟩, h4⟩ := hq
  exact ⟨⟨v, G', I', h1, hQ _ _ _ h2, h3⟩, h4⟩
/-- fewer locals -/
theorem kWP.sub {xs : KS} {lay : Bool} {d kc ks j pc : Nat} {L L' : KL} {st : List KV} {G : KG} {I : KI} {Q : KQ} (hs : ∀ q ∈ L', q ∈ L) (h : kWP xs lay d kc ks j pc L' st G I Q) : kWP xs lay d kc ks j pc L st G I Q := by
  intro X p l e R s m args below meth c H locs cells slots ls G0 F hc hs' hz he hM hS hl hL hv
  refine h X p l e R s m args below meth c H locs cells slots ls G0 F hc hs' hz he hM hS ⟨hl.1, hl.2.1, fun q hq => ?_⟩ (fun q hq => hL q (hs q hq)) hv
  obtain ⟨q0, h0, rfl⟩ := List.mem_map.mp hq
  exact hl.2.2 _ (List.mem_map.mpr ⟨q0, hs q0 h0, rfl⟩)
theorem W.size {p : Program} {l : Launch} {e : Env} {R : Room} {s : State} {m : MethodId} {args : Array Value} {below : List Frame} {meth : Method} {c : Code} {H : Heap} {locs : List Loc} {cells slots : Nat} {Q : State → Prop} {g : JFrame} (h : H.size ≤ s.heap.size + cells → W p l e R s m args below meth c H locs cells slots Q g) : W p l e R s m args below meth c H locs cells slots Q g := by
  intro T hT X
  have := X.heapSize
  rw [hT] at this
  exact h this T hT X
theorem kws_len (X : KX) (G : KG) (I : KI) : (kws X G I).length = G.1 := by simp [kws]
theorem kws_at (X : KX) (G : KG) (I : KI) {a : Nat} (h : a < G.1) : (kws X G I)[a]? = some (X.1 + a, kcell X G I a) := by
  simp [kws, h]
theorem kws_inv {X : KX} {G : KG} {I : KI} {k : Nat} {q : Nat × va_E} (h : (kws X G I)[k]? = some q) : k < G.1 ∧ q = (X.1 + k, kcell X G I k) := by
  have hk : k < G.1 := by
    have := (List.getElem?_eq_some_iff.mp h).1
    rwa [kws_len] at this
  rw [kws_at X G I hk] at h
  exact ⟨hk, (Option.some.inj h).symm⟩
theorem kws_D (X : KX) (G : KG) (I : KI) : va_D (kA X) (kws X G I) := by
  refine ⟨fun i j p q hi hj hpq => ?_, fun k q hk => ?_⟩
  · obtain ⟨_, rfl⟩ := kws_inv hi
    obtain ⟨_, rfl⟩ := kws_inv hj
    simp at hpq
    omega
  · obtain ⟨_, rfl⟩ := kws_inv hk
    exact Nat.le_add_right _ _
theorem kSim.size {X : KX} {lay : Bool} {G : KG} {I : KI} {H : Heap} (h : kSim X lay G I H) (hb : X.1 ≤ H.size) : X.1 + G.1 ≤ H.size := by
  rcases Nat.eq_zero_or_pos G.1 with h0 | h0
  · omega
  · have := (h.1 (G.1 - 1) _ (kws_at X G I (by omega))).lt
    simp at this
    omega
