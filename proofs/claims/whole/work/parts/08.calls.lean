/-! CALLS: a method's contract out of its judgement, and the rules of the calls -/
theorem kWorld.moved {xs : KS} {X : KX} {s U : State} {H : Heap} {locs : List Loc} (h : kWorld xs X s) (hW : s.WarmedH U.vm) (hS : va_S (kA X) s.heap H locs) (hU : U.heap = H) : kWorld xs X U := by
  obtain ⟨fK, ⟨fN, fA, fB⟩, fZ, fT⟩ := h
  have hk : ∀ a : Nat, a < s.heap.size → ¬ kA X a → H[a]? = s.heap[a]? := hS.2.1
  refine ⟨fK.moved hW.alike, ⟨fun w hw => ?_, fA.moved hW.alike, fB.moved hW.alike⟩, fun i hi => ?_, fun i hi => ?_⟩
  · have h1 := fN w hw
    have h2 := (List.mem_filter.mp hw).2
    cases w with
    | methodLinkNest a b c d => exact va_Nw.warmM hW h1
    | _ => simp at h2
  · rw [hU]; exact ((fZ i hi).moved hW.alike).kept hk
  · rw [hU]; exact ((fT i hi).moved hW.alike).kept hk
theorem kWorld.calling {xs : KS} {X : KX} {U : State} (h : kWorld xs X U) (g : JFrame) (mk : MethodId) (a : Array Value) : kWorld xs X (U.calling g mk a) := by
  obtain ⟨fK, ⟨fN, fA, fB⟩, fZ, fT⟩ := h
  refine ⟨va_K.moved (u := U) (U := U.calling g mk a) (Vm.Alike.refl U.vm) fK, ⟨fun w hw => ?_, va_AO.moved (u := U) (U := U.calling g mk a) (Vm.Alike.refl U.vm) fA, va_AO.moved (u := U) (U := U.calling g mk a) (Vm.Alike.refl U.vm) fB⟩, fun i hi => ?_, fun i hi => ?_⟩
  · have h1 := fN w hw
    have h2 := (List.mem_filter.mp hw).2
    cases w with
    | methodLinkNest a b c d => exact va_Nw.same rfl (rfl : U.vm = (U.calling g mk _).vm) h1
    | _ => simp at h2
  · exact va_Z.moved (u := U) (U := U.calling g mk a) (Vm.Alike.refl U.vm) (fZ i hi)
  · exact va_T.moved (u := U) (U := U.calling g mk a) (Vm.Alike.refl U.vm) (fT i hi)
def kargs : Nat → List KV → KL
  | _, [] => []
  | i, v :: r => (i, v) :: kargs (bif Nat.beq v.1 1 then i + 2 else i + 1) r
def kwords : List KV → Nat
  | [] => 0
  | v :: r => (bif Nat.beq v.1 1 then 2 else 1) + kwords r
theorem nbeq (a b : Nat) : Nat.beq a b = decide (a = b) := by
  by_cases h : a = b
  · subst h; rw [decide_eq_true rfl]; exact Nat.beq_refl a
  · rw [decide_eq_false h]
    cases hb : Nat.beq a b with
    | false => rfl
    | true => exact absurd (Nat.eq_of_beq_eq_true hb) h
theorem kbq (X : KX) (v : KV) : (Nat.beq v.1 1) = decide ((kcv X v).category = 2) := by
  have h := kcat X v
  have h2 : ((kcv X v).category == 2) = decide ((kcv X v).category = 2) := rfl
  rw [← h2, h, nbeq]; rfl
theorem kargs_lv (X : KX) : ∀ (as : List KV) (i : Nat), (kargs i as).map (fun q => (q.1, kcv X q.2)) = lv_args i (as.map (kcv X))
  | [], i => rfl
  | v :: r, i => by
    unfold kargs
    rw [List.map_cons, List.map_cons, kargs_lv X r, kbq X v, lv_args]
    by_cases hc : (kcv X v).category = 2 <;> simp [hc]
theorem kwords_sl (X : KX) : ∀ (as : List KV), (lg_sl (as.map (kcv X))).length = kwords as
  | [] => rfl
  | v :: r => by
    have := kwords_sl X r
    unfold kwords
    rw [kbq X v]
    unfold lg_sl at this ⊢
    rw [List.map_cons, List.flatMap_cons, List.length_append, this]
    by_cases hc : (kcv X v).category = 2 <;> simp [hc]
theorem kargs_val {G : KG} : ∀ {as : List KV} {i : Nat}, (∀ v ∈ as, kval G v) → ∀ q ∈ kargs i as, kval G q.2
  | [], i, _, q, hq => by simp [kargs] at hq
  | v :: r, i, h, q, hq => by
    unfold kargs at hq
    rcases List.mem_cons.mp hq with rfl | hq
    · exact h _ List.mem_cons_self
    · exact kargs_val (fun w hw => h w (List.mem_cons_of_mem _ hw)) q hq
def kRoom (d kc ks : Nat) : Room := { frames := d + 1, cells := kc, slots := ks, locals := 60 * (d + 1) }
def kWs (j : Nat) : List Cond := Cond.code (kMy j) (kMb j) (kMl j) (kMr j) :: kWords
theorem kOkM_of {j : Nat} (h : kOkM j = true) : plainName (kMy j).cls = true ∧ (kMy j).cls ≠ "java/lang/invoke/MethodHandle" ∧ (kMy j).cls ≠ "java/lang/invoke/VarHandle" ∧ (parseMethodDescriptor (kMy j).desc).map (fun d => d.parameters.length) = some (kMn j) ∧ kMl j ≤ 21 ∧ Cond.code (kMy j) (kMb j) (kMl j) (kMr j) ∈ kWords ∧ Cond.initialized (kMy j).cls ∈ kWords ∧
    (kMk j = 0 → Cond.static (kMy j) ∈ kWords) ∧ (kMk j = 1 → Cond.instanceMethod (kMy j) ∈ kWords ∧ Cond.selects (kMy j).cls (kMy j) (kMy j) ∈ kWords) ∧ (kMk j = 2 → Cond.instanceMethod (kMy j) ∈ kWords ∧ (kMy j).name = "<init>" ∧ kMr j = none) := by
  unfold kOkM at h
  unfold kMy kMb kMl kMr kMk kMn
  revert h
  generalize kM j = q
  obtain ⟨y, b, ml, r, kd, na, p0, p1, p2, p3⟩ := q
  intro h
  simp only [Bool.and_eq_true, decide_eq_true_eq] at h
  obtain ⟨⟨⟨⟨⟨⟨⟨h1, h2⟩, h3⟩, h4⟩, h5⟩, h6⟩, h7⟩, h8⟩ := h
  refine ⟨h1, h2, h3, h4, Nat.le_of_ble_eq_true h5, kIs_in h6, kIs_in h7, fun hk => ?_, fun hk => ?_, fun hk => ?_⟩
  · dsimp only at hk; subst hk; exact kIs_in h8
  · dsimp only at hk; subst hk
    simp only [Bool.and_eq_true] at h8
    exact ⟨kIs_in h8.1, kIs_in h8.2⟩
  · dsimp only at hk; subst hk
    simp only [Bool.and_eq_true, decide_eq_true_eq] at h8
    exact ⟨kIs_in h8.1.1, h8.1.2, h8.2⟩
theorem kWs_good {j : Nat} (h : kOkM j = true) : GoodIn kWords (kWs j) := by
  intro w hw
  have : w ∈ kWords := by
    rcases List.mem_cons.mp hw with rfl | hw
    · exact (kOkM_of h).2.2.2.2.2.1
    · exact hw
  exact ⟨this, kWords_good w this⟩
def kPc (xs : KS) (lay : Bool) (X : KX) (G : KG) (I : KI) (args : List KV) : Array Value → State → Prop := va_Pc (args.map (kcv X)) (fun U => U.heap.size = X.1 + G.1 ∧ kSim X lay G I U.heap ∧ kWorld xs X U)
theorem kPc_blind (xs : KS) (lay : Bool) (X : KX) (G : KG) (I : KI) (args : List KV) : FrameBlind (kPc xs lay X G I args) := fun a U g mk q => ⟨q.1, q.2.1, q.2.2.1, q.2.2.2.calling g mk a⟩
theorem kMet {xs : KS} {lay : Bool} {d kc ks j : Nat} {args : List KV} {G : KG} {I : KI} {Q : KQ} (h : kWP xs lay d kc ks j 0 (kargs 0 args) [] G I Q) (hok : kOkM j = true) (hv : ∀ v ∈ args, kval G v) (hx : kXs xs) (hlen : kwords args ≤ kMl j) (X : KX) (l : Launch) :
    Met l (kMy j) (kWs j) (kRoom d kc ks) (kPc xs lay X G I args) (kQ X j lay (X.1 + G.1 + kc) G Q) kc ks (kA X) := by
  have hk := kOkM_of hok
  refine Met.ofW (cc := kMb j) (maxL := kMl j) (ret := kMr j) hk.1 rfl ?_
  intro p e s m args' below meth c s₁ B hml hP
  obtain ⟨rfl, hsz, hM, hW⟩ := hP
  have hts := atoms_spec (ws := kWs j) B.pre
  have hin : meth.name = (kMy j).name := (name_of_methodNamed B.named B.method).1
  rw [lg_entry_eq]
  have hl := lv_entry (args.map (kcv X)) (n := kMl j) (by rw [kwords_sl]; exact hlen)
  generalize (lg_sl (args.map (kcv X)) ++ List.replicate (kMl j - (lg_sl (args.map (kcv X))).length) Slot.unset).toArray = ls at hl ⊢
  have := h X p l e (kRoom d kc ks) s m (args.map (kcv X)).toArray below meth c s.heap [] 0 0 ls G
    ⟨B.exec, B.bytes, hml, findClass_of_methodNamed B.named, B.returns, B.notSynchronized, fun hk2 => by rw [hin]; exact (hk.2.2.2.2.2.2.2.2.2 hk2).2.1, fun w hw => hts w (List.mem_cons_of_mem _ hw), Nat.le_refl _, Nat.le_refl _, hW, hx, by rw [hsz]; exact Nat.le_add_right _ _⟩
    (by show 0 + kc ≤ kc; omega) (by show 0 + ks ≤ ks; omega) (by rw [hsz]; rfl) (kExt.rf G) hM va_S.rf (by rw [kargs_lv]; exact hl) (kargs_val hv) (fun v hv => absurd hv List.not_mem_nil)
  rw [show s.heap.size + 0 + kc = X.1 + G.1 + kc by rw [hsz]; rfl, show 0 + kc = kc by omega, show 0 + ks = ks by omega] at this
  exact this
section KC
variable {p : Program} {l : Launch} {e : Env} {R : Room} {s : State} {m : MethodId} {args : Array Value} {below : List Frame} {meth : Method} {c : Code} {H : Heap} {locs : List Loc} {cells slots : Nat} {Q : State → Prop}
theorem kcall {X : KX} {j2 : Nat} {lay : Bool} {N : Nat} {G : KG} {Qc : KQ} {a : Array Value} {kc2 ks2 pc : Nat} {ls : Array Slot} {st0 rest : List Value}
    (hr : va_Run p l e R s m args below meth c H locs cells slots kc2 ks2 (F0 m pc ls st0) rest (kQ X j2 lay N G Qc a) (kA X)) (hS : va_S (kA X) s.heap H locs)
    (kk : ∀ (x : Int) (G' : KG) (I' : KI) (H1 : Heap) (locs1 : List Loc), Qc x G' I' → kSim X lay G' I' H1 → X.1 + G'.1 = N → kExt G G' → kval G' (kRt j2, kRn j2, x) → va_S (kA X) s.heap H1 locs1 →
      W p l e R s m args below meth c H1 locs1 (cells + kc2) (slots + ks2) Q (F0 m (pc + 3) ls ((kout X j2 (kRt j2, kRn j2, x)).toList ++ rest))) : W p l e R s m args below meth c H locs cells slots Q (F0 m pc ls st0) := by
  intro T hT X0
  obtain ⟨v, st₀, t, T', L, h0, X', hL, e1, e2, ⟨⟨x, G', I', hv, hq, hM, hN, hE, hval⟩, hz, hk⟩, st⟩ := hr T hT X0
  cases hv
  rw [h0] at hz hk
  obtain ⟨t2, a1, b1⟩ := kk x G' I' T'.heap (locs ++ L) hq (by rw [e1]; exact hM) hN hE hval
    ⟨Nat.le_trans hS.1 (by rw [e1]; exact hz), fun q h1 h2 => by rw [e1, hk q (Nat.lt_of_lt_of_le h1 hS.1) h2]; exact hS.2.1 q h1 h2, fun q hq => by
      rcases List.mem_append.mp hq with h | h
      · exact hS.2.2 q h
      · exact hL q h⟩ T' rfl X'
  exact ⟨t2, st t2 a1, b1⟩
end KC
def kpop : Nat → List KV → List KV → List KV × List KV
  | 0, st, acc => (acc, st)
  | n + 1, v :: st, acc => kpop n st (v :: acc)
  | _ + 1, [], acc => (acc, [])
theorem kpop_spec : ∀ {n : Nat} {st acc as r : List KV}, n ≤ st.length → kpop n st acc = (as, r) → ∃ as0 : List KV, as = as0 ++ acc ∧ as0.length = n ∧ st = as0.reverse ++ r
  | 0, st, acc, as, r, _, h => by
    unfold kpop at h
    cases h
    exact ⟨[], rfl, rfl, rfl⟩
  | n + 1, v :: st, acc, as, r, hn, h => by
    unfold kpop at h
    obtain ⟨as0, h1, h2, h3⟩ := kpop_spec (by simpa using hn) h
    exact ⟨as0 ++ [v], by rw [h1]; simp, by simp [h2], by rw [h3]; simp⟩
  | n + 1, [], acc, as, r, hn, h => by simp at hn
theorem kst_sum (X : KX) : ∀ (st : List KV), ((st.map (kcv X)).map fun v => v.category).sum ≤ 2 * st.length
  | [] => by simp
  | v :: r => by
    have h1 := kst_sum X r
    have h2 := lv_cat (kcv X v)
    simp only [List.map_cons, List.sum_cons, List.length_cons]
    omega
/-- what every call asks: the callee, its arguments, the room -/
def kCall (j2 n : Nat) (st as rest : List KV) : Prop := kOkM j2 = true ∧ n ≤ st.length ∧ kpop n st [] = (as, rest) ∧ kwords as ≤ kMl j2 ∧ rest.length ≤ 4
