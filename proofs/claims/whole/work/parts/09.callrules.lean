/-! THE RULES OF THE CALLS -/
def koutl (j : Nat) (x : Int) : List KV := match kMr j with
  | none => []
  | some _ => [(kRt j, kRn j, x)]
theorem koutl_eq (X : KX) (j : Nat) (x : Int) : (kout X j (kRt j, kRn j, x)).toList = (koutl j x).map (kcv X) := by
  unfold kout koutl
  cases kMr j <;> rfl
theorem koutl_val {G : KG} {j : Nat} {x : Int} (h : kval G (kRt j, kRn j, x)) : ∀ v ∈ koutl j x, kval G v := by
  intro v hv
  unfold koutl at hv
  split at hv
  · exact absurd hv List.not_mem_nil
  · rw [List.mem_singleton.mp hv]; exact h
theorem kr_inv {xs : KS} {lay : Bool} {d kc ks kc2 ks2 j j2 pc n idx : Nat} {L : KL} {st as rest : List KV} {G : KG} {I : KI} {Q : KQ} {ci nn : Nat} {b : Int} {As : List KV} (hd : decode (kMb j) pc = .ok (.invokevirtual idx, 3)) (hc : kCall j2 n st as rest) (has : as = (10 + ci, nn, b) :: As) (hcl : (kcl[ci]?).map (fun q => q.1) = some (kMy j2).cls) (hk : kMk j2 = 1) (hn : n = kMn j2 + 1) (hw : Cond.methodLink (kMy j).cls idx (kMy j2) ∈ kWords)
    (h : kWP xs lay d kc2 ks2 j2 0 (kargs 0 as) [] G I (fun x G' I' => kWP xs lay (d + 1) kc ks j (pc + 3) L (koutl j2 x ++ rest) G' I' Q)) : kWP xs lay (d + 1) (kc2 + kc) (ks2 + ks) j pc L st G I Q := by
  intro X p l e R s m args below meth c H locs cells slots ls G0 F hcc hss hz he hM hS hl hL hv
  obtain ⟨fx, fb, fml, fown, fret, flk, fini, fws, ffr, flo, fW, fXs, fbs⟩ := id F
  obtain ⟨hok, hnl, hpop, hwd, hrl⟩ := hc
  have hkm := kOkM_of hok
  obtain ⟨as0, e1, e2, e3⟩ := kpop_spec hnl hpop
  rw [List.append_nil] at e1
  subst e1
  have hvr : ∀ v ∈ rest, kval G v := fun v hq => hv v (by rw [e3]; exact List.mem_append_right _ hq)
  have hva : ∀ v ∈ as, kval G v := fun v hq => hv v (by rw [e3]; exact List.mem_append_left _ (List.mem_reverse.mpr hq))
  refine W.size (fun hsz => ?_)
  have hsz2 := hM.size (Nat.le_trans fbs hS.1)
  have hszE : H.size = X.1 + G.1 := by omega
  have hMet := kMet h hok hva fXs hwd X l
  have e4 := e2
  subst has
  have hb0 := hva _ List.mem_cons_self
  rw [show 10 + ci = (6 + ci) + 4 by omega] at hb0
  obtain ⟨q, hqb, hq1, hq2, hq3⟩ := kvr hb0
  subst hqb
  obtain ⟨qc, hqc, hqn⟩ : ∃ qc, kcl[ci]? = some qc ∧ qc.1 = (kMy j2).cls := by
    cases hx : kcl[ci]? with
    | none => rw [hx] at hcl; cases hcl
    | some qc => rw [hx] at hcl; exact ⟨qc, rfl, Option.some.inj hcl⟩
  have hrecv := va_recv fW.1 hM.1 hqc (q0 := q) (a := X.1 + q) (fs := (List.range (G.2.1 q).2).map (fun k => kfv X G I q ci k)) ((kws_at X G I hq1).trans (by rw [kcell_o (by omega : (G.2.1 q).1 = 10 + ci)]))
  rw [hqn] at hrecv
  have hstk : st.map (kcv X) = (As.map (kcv X)).reverse ++ .ref (X.1 + q) :: rest.map (kcv X) := by
    rw [e3, List.map_append, List.map_reverse, List.map_cons, List.reverse_cons, List.append_assoc]
    rw [show kcv X (10 + ci, nn, (q : Int)) = .ref (X.1 + q) by rw [show 10 + ci = (6 + ci) + 4 by omega]; rfl]
    rfl
  have hpcEq : (Value.ref (X.1 + q) :: As.map (kcv X)).toArray = (((10 + ci, nn, (q : Int)) :: As).map (kcv X)).toArray := by rw [List.map_cons, show kcv X (10 + ci, nn, (q : Int)) = .ref (X.1 + q) by rw [show 10 + ci = (6 + ci) + 4 by omega]; rfl]
  have cw : CallW R s args (kMy j).cls (kMy j2).cls idx (kMy j2) (kMb j2) (kMl j2) (kMr j2) (kWs j2) (kRoom d kc2 ks2) kc2 ks2 (kMn j2) := ⟨callB_of (rm := kRoom d kc2 ks2) (mc := kc2) (ms := ks2) (kMn j2) fws (kWs_good hok) rfl rfl rfl (fws _ hkm.2.2.2.2.2.2.1) (fws _ hw) ⟨hkm.2.1, hkm.2.2.1, hkm.2.2.2.1⟩ ⟨by show d + 1 + 1 ≤ R.frames; omega, by show 8 + (kMl j2 + 11) + 60 * (d + 1) ≤ R.locals; have := hkm.2.2.2.2.1; omega⟩, fws _ (hkm.2.2.2.2.2.2.2.2.1 hk).1, fws _ (hkm.2.2.2.2.2.2.2.2.1 hk).2⟩
  have hrun := va_runV (e := e) (below := below) (meth := meth) (H := H) (locs := locs) (cells := cells) (slots := slots) (g := F0 m pc ls ((As.map (kcv X)).reverse ++ .ref (X.1 + q) :: rest.map (kcv X))) (rest := rest.map (kcv X)) (As := As.map (kcv X)) (b := X.1 + q) ⟨fx, fb, fml, fown, fws⟩ hMet cw ⟨kPc_blind _ _ _ _ _ _, hrecv, fun U hU hW => ⟨hpcEq, by rw [hU]; exact hszE, by rw [hU]; exact hM, fW.moved hW hS hU⟩⟩ rfl (by rw [List.length_map]; simp at e4; omega) hl.1 rfl (by have := kst_sum X rest; show 2 * 0 + _ ≤ 8; omega) hd ⟨by omega, by omega⟩
  rw [hstk]
  refine kcall (X := X) (lay := lay) (N := X.1 + G.1 + kc2) (G := G) hrun hS (fun x G' I' H1 locs1 hq hM1 hN hE hval hS1 => ?_)
  have h2 := hq X p l e R s m args below meth c H1 locs1 (cells + kc2) (slots + ks2) ls G0 F (by omega) (by omega) (by omega) (he.tr hE) hM1 hS1 hl (fun q hq => (hL q hq).ext hE) (fun v hv => by
    rcases List.mem_append.mp hv with hv | hv
    · exact koutl_val hval v hv
    · exact (hvr v hv).ext hE)
  rw [List.map_append, ← koutl_eq X] at h2
  rw [show cells + kc2 + kc = cells + (kc2 + kc) by omega, show slots + ks2 + ks = slots + (ks2 + ks) by omega, show s.heap.size + (cells + kc2) + kc = s.heap.size + cells + (kc2 + kc) by omega] at h2
  exact h2
theorem kr_invS {xs : KS} {lay : Bool} {d kc ks kc2 ks2 j j2 pc n idx : Nat} {L : KL} {st as rest : List KV} {G : KG} {I : KI} {Q : KQ}  (hd : decode (kMb j) pc = .ok (.invokestatic idx, 3)) (hc : kCall j2 n st as rest) (hk : kMk j2 = 0) (hn : n = kMn j2) (hw : Cond.methodLink (kMy j).cls idx (kMy j2) ∈ kWords)
    (h : kWP xs lay d kc2 ks2 j2 0 (kargs 0 as) [] G I (fun x G' I' => kWP xs lay (d + 1) kc ks j (pc + 3) L (koutl j2 x ++ rest) G' I' Q)) : kWP xs lay (d + 1) (kc2 + kc) (ks2 + ks) j pc L st G I Q := by
  intro X p l e R s m args below meth c H locs cells slots ls G0 F hcc hss hz he hM hS hl hL hv
  obtain ⟨fx, fb, fml, fown, fret, flk, fini, fws, ffr, flo, fW, fXs, fbs⟩ := id F
  obtain ⟨hok, hnl, hpop, hwd, hrl⟩ := hc
  have hkm := kOkM_of hok
  obtain ⟨as0, e1, e2, e3⟩ := kpop_spec hnl hpop
  rw [List.append_nil] at e1
  subst e1
  have hvr : ∀ v ∈ rest, kval G v := fun v hq => hv v (by rw [e3]; exact List.mem_append_right _ hq)
  have hva : ∀ v ∈ as, kval G v := fun v hq => hv v (by rw [e3]; exact List.mem_append_left _ (List.mem_reverse.mpr hq))
  refine W.size (fun hsz => ?_)
  have hsz2 := hM.size (Nat.le_trans fbs hS.1)
  have hszE : H.size = X.1 + G.1 := by omega
  have hMet := kMet h hok hva fXs hwd X l
  have hstk : st.map (kcv X) = (as.map (kcv X)).reverse ++ rest.map (kcv X) := by rw [e3, List.map_append, List.map_reverse]
  have hrun := va_runS (e := e) (below := below) (meth := meth) (H := H) (locs := locs) (cells := cells) (slots := slots) (g := F0 m pc ls ((as.map (kcv X)).reverse ++ rest.map (kcv X))) (rest := rest.map (kcv X)) (As := as.map (kcv X)) ⟨fx, fb, fml, fown, fws⟩ hMet ⟨callB_of (rm := kRoom d kc2 ks2) (mc := kc2) (ms := ks2) (kMn j2) fws (kWs_good hok) rfl rfl rfl (fws _ hkm.2.2.2.2.2.2.1) (fws _ hw) ⟨hkm.2.1, hkm.2.2.1, hkm.2.2.2.1⟩ ⟨by show d + 1 + 1 ≤ R.frames; omega, by show 8 + (kMl j2 + 11) + 60 * (d + 1) ≤ R.locals; have := hkm.2.2.2.2.1; omega⟩, fws _ (hkm.2.2.2.2.2.2.2.1 hk)⟩ ⟨kPc_blind _ _ _ _ _ _, fun U hU hW => ⟨rfl, by rw [hU]; exact hszE, by rw [hU]; exact hM, fW.moved hW hS hU⟩⟩ rfl (by rw [List.length_map]; omega) hl.1 rfl (by have := kst_sum X rest; show 2 * 0 + _ ≤ 8; omega) hd ⟨by omega, by omega⟩
  rw [hstk]
  refine kcall (X := X) (lay := lay) (N := X.1 + G.1 + kc2) (G := G) hrun hS (fun x G' I' H1 locs1 hq hM1 hN hE hval hS1 => ?_)
  have h2 := hq X p l e R s m args below meth c H1 locs1 (cells + kc2) (slots + ks2) ls G0 F (by omega) (by omega) (by omega) (he.tr hE) hM1 hS1 hl (fun q hq => (hL q hq).ext hE) (fun v hv => by
    rcases List.mem_append.mp hv with hv | hv
    · exact koutl_val hval v hv
    · exact (hvr v hv).ext hE)
  rw [List.map_append, ← koutl_eq X] at h2
  rw [show cells + kc2 + kc = cells + (kc2 + kc) by omega, show slots + ks2 + ks = slots + (ks2 + ks) by omega, show s.heap.size + (cells + kc2) + kc = s.heap.size + cells + (kc2 + kc) by omega] at h2
  exact h2
theorem kr_invSN {xs : KS} {lay : Bool} {d kc ks kc2 ks2 j j2 pc n idx : Nat} {L : KL} {st as rest : List KV} {G : KG} {I : KI} {Q : KQ} {host : String} (hd : decode (kMb j) pc = .ok (.invokestatic idx, 3)) (hc : kCall j2 n st as rest) (hk : kMk j2 = 0) (hn : n = kMn j2) (hw : Cond.methodLinkNest (kMy j).cls idx (kMy j2) host ∈ kNest)
    (h : kWP xs lay d kc2 ks2 j2 0 (kargs 0 as) [] G I (fun x G' I' => kWP xs lay (d + 1) kc ks j (pc + 3) L (koutl j2 x ++ rest) G' I' Q)) : kWP xs lay (d + 1) (kc2 + kc) (ks2 + ks) j pc L st G I Q := by
  intro X p l e R s m args below meth c H locs cells slots ls G0 F hcc hss hz he hM hS hl hL hv
  obtain ⟨fx, fb, fml, fown, fret, flk, fini, fws, ffr, flo, fW, fXs, fbs⟩ := id F
  obtain ⟨hok, hnl, hpop, hwd, hrl⟩ := hc
  have hkm := kOkM_of hok
  obtain ⟨as0, e1, e2, e3⟩ := kpop_spec hnl hpop
  rw [List.append_nil] at e1
  subst e1
  have hvr : ∀ v ∈ rest, kval G v := fun v hq => hv v (by rw [e3]; exact List.mem_append_right _ hq)
  have hva : ∀ v ∈ as, kval G v := fun v hq => hv v (by rw [e3]; exact List.mem_append_left _ (List.mem_reverse.mpr hq))
  refine W.size (fun hsz => ?_)
  have hsz2 := hM.size (Nat.le_trans fbs hS.1)
  have hszE : H.size = X.1 + G.1 := by omega
  have hMet := kMet h hok hva fXs hwd X l
  have hstk : st.map (kcv X) = (as.map (kcv X)).reverse ++ rest.map (kcv X) := by rw [e3, List.map_append, List.map_reverse]
  have hrun := va_runSN (e := e) (below := below) (meth := meth) (H := H) (locs := locs) (cells := cells) (slots := slots) (g := F0 m pc ls ((as.map (kcv X)).reverse ++ rest.map (kcv X))) (rest := rest.map (kcv X)) (As := as.map (kcv X)) ⟨fx, fb, fml, fown, fws⟩ hMet ⟨va_cnB (rm := kRoom d kc2 ks2) (mc := kc2) (ms := ks2) (kMn j2) fws (kWs_good hok) rfl rfl rfl (fW.2.1.1 _ hw) (fws _ hkm.2.2.2.2.2.2.1) ⟨hkm.2.1, hkm.2.2.1, hkm.2.2.2.1⟩ ⟨by show d + 1 + 1 ≤ R.frames; omega, by show 8 + (kMl j2 + 11) + 60 * (d + 1) ≤ R.locals; have := hkm.2.2.2.2.1; omega⟩, fws _ (hkm.2.2.2.2.2.2.2.1 hk), trivial⟩ ⟨kPc_blind _ _ _ _ _ _, fun U hU hW => ⟨rfl, by rw [hU]; exact hszE, by rw [hU]; exact hM, fW.moved hW hS hU⟩⟩ rfl (by rw [List.length_map]; omega) hl.1 rfl (by have := kst_sum X rest; show 2 * 0 + _ ≤ 8; omega) hd ⟨by omega, by omega⟩
  rw [hstk]
  refine kcall (X := X) (lay := lay) (N := X.1 + G.1 + kc2) (G := G) hrun hS (fun x G' I' H1 locs1 hq hM1 hN hE hval hS1 => ?_)
  have h2 := hq X p l e R s m args below meth c H1 locs1 (cells + kc2) (slots + ks2) ls G0 F (by omega) (by omega) (by omega) (he.tr hE) hM1 hS1 hl (fun q hq => (hL q hq).ext hE) (fun v hv => by
    rcases List.mem_append.mp hv with hv | hv
    · exact koutl_val hval v hv
    · exact (hvr v hv).ext hE)
  rw [List.map_append, ← koutl_eq X] at h2
  rw [show cells + kc2 + kc = cells + (kc2 + kc) by omega, show slots + ks2 + ks = slots + (ks2 + ks) by omega, show s.heap.size + (cells + kc2) + kc = s.heap.size + cells + (kc2 + kc) by omega] at h2
  exact h2
theorem kcd {j : Nat} (h : kOkM j = true) : Cond.code (kMy j) (kMb j) (kMl j) (kMr j) ∈ kWords := (kOkM_of h).2.2.2.2.2.1
theorem kr_invI {xs : KS} {lay : Bool} {d kc ks kc2 ks2 j j2 pc n idx : Nat} {L : KL} {st as rest : List KV} {G : KG} {I : KI} {Q : KQ} {t nn : Nat} {b : Int} {As : List KV} (hd : decode (kMb j) pc = .ok (.invokespecial idx, 3)) (hc : kCall j2 n st as rest) (has : as = (t + 4, nn, b) :: As) (hk : kMk j2 = 2) (hn : n = kMn j2 + 1) (hw : Cond.methodLink (kMy j).cls idx (kMy j2) ∈ kWords)
    (h : kWP xs lay d kc2 ks2 j2 0 (kargs 0 as) [] G I (fun x G' I' => kWP xs lay (d + 1) kc ks j (pc + 3) L (koutl j2 x ++ rest) G' I' Q)) : kWP xs lay (d + 1) (kc2 + kc) (ks2 + ks) j pc L st G I Q := by
  intro X p l e R s m args below meth c H locs cells slots ls G0 F hcc hss hz he hM hS hl hL hv
  obtain ⟨fx, fb, fml, fown, fret, flk, fini, fws, ffr, flo, fW, fXs, fbs⟩ := id F
  obtain ⟨hok, hnl, hpop, hwd, hrl⟩ := hc
  have hkm := kOkM_of hok
  obtain ⟨as0, e1, e2, e3⟩ := kpop_spec hnl hpop
  rw [List.append_nil] at e1
  subst e1
  have hvr : ∀ v ∈ rest, kval G v := fun v hq => hv v (by rw [e3]; exact List.mem_append_right _ hq)
  have hva : ∀ v ∈ as, kval G v := fun v hq => hv v (by rw [e3]; exact List.mem_append_left _ (List.mem_reverse.mpr hq))
  refine W.size (fun hsz => ?_)
  have hsz2 := hM.size (Nat.le_trans fbs hS.1)
  have hszE : H.size = X.1 + G.1 := by omega
  have hMet := kMet h hok hva fXs hwd X l
  have e4 := e2
  subst has
  have hb0 := hva _ List.mem_cons_self
  obtain ⟨q, hqb, hq1, hq2, hq3⟩ := kvr hb0
  subst hqb
  have hr0 : kMr j2 = none := (hkm.2.2.2.2.2.2.2.2.2 hk).2.2
  have hstk : st.map (kcv X) = (As.map (kcv X)).reverse ++ .ref (X.1 + q) :: rest.map (kcv X) := by
    rw [e3, List.map_append, List.map_reverse, List.map_cons, List.reverse_cons, List.append_assoc]
    rfl
  have hrun := va_runI (e := e) (below := below) (meth := meth) (H := H) (locs := locs) (cells := cells) (slots := slots) (g := F0 m pc ls ((As.map (kcv X)).reverse ++ .ref (X.1 + q) :: rest.map (kcv X))) (rest := rest.map (kcv X)) (As := As.map (kcv X)) (b := X.1 + q) ⟨fx, fb, fml, fown, fws⟩ hMet ⟨callB_of (ret := none) (bytes := kMb j2) (maxL := kMl j2) (ws := kWs j2) (ws' := kWords) (rm := kRoom d kc2 ks2) (mc := kc2) (ms := ks2) (kMn j2) fws (kWs_good hok) (by unfold kWs; rw [hr0]) rfl rfl (fws _ hkm.2.2.2.2.2.2.1) (fws _ hw) ⟨hkm.2.1, hkm.2.2.1, hkm.2.2.2.1⟩ ⟨by show d + 1 + 1 ≤ R.frames; omega, by show 8 + (kMl j2 + 11) + 60 * (d + 1) ≤ R.locals; have := hkm.2.2.2.2.1; omega⟩, (hkm.2.2.2.2.2.2.2.2.2 hk).2.1, fws _ (hkm.2.2.2.2.2.2.2.2.2 hk).1⟩ ⟨kPc_blind _ _ _ _ _ _, fun U hU hW => ⟨rfl, by rw [hU]; exact hszE, by rw [hU]; exact hM, fW.moved hW hS hU⟩⟩ rfl (by rw [List.length_map]; simp at e4; omega) hl.1 rfl (by have := kst_sum X rest; show 2 * 0 + _ ≤ 8; omega) hd ⟨by omega, by omega⟩
  rw [hstk]
  refine kcall (X := X) (lay := lay) (N := X.1 + G.1 + kc2) (G := G) hrun hS (fun x G' I' H1 locs1 hq hM1 hN hE hval hS1 => ?_)
  have h2 := hq X p l e R s m args below meth c H1 locs1 (cells + kc2) (slots + ks2) ls G0 F (by omega) (by omega) (by omega) (he.tr hE) hM1 hS1 hl (fun q hq => (hL q hq).ext hE) (fun v hv => by
    rcases List.mem_append.mp hv with hv | hv
    · exact koutl_val hval v hv
    · exact (hvr v hv).ext hE)
  rw [List.map_append, ← koutl_eq X] at h2
  rw [show cells + kc2 + kc = cells + (kc2 + kc) by omega, show slots + ks2 + ks = slots + (ks2 + ks) by omega, show s.heap.size + (cells + kc2) + kc = s.heap.size + cells + (kc2 + kc) by omega] at h2
  exact h2
theorem kr_invIN {xs : KS} {lay : Bool} {d kc ks kc2 ks2 j j2 pc n idx : Nat} {L : KL} {st as rest : List KV} {G : KG} {I : KI} {Q : KQ} {t nn : Nat} {b : Int} {As : List KV} {host : String} (hd : decode (kMb j) pc = .ok (.invokespecial idx, 3)) (hc : kCall j2 n st as rest) (has : as = (t + 4, nn, b) :: As) (hk : kMk j2 = 2) (hn : n = kMn j2 + 1) (hw : Cond.methodLinkNest (kMy j).cls idx (kMy j2) host ∈ kNest)
    (h : kWP xs lay d kc2 ks2 j2 0 (kargs 0 as) [] G I (fun x G' I' => kWP xs lay (d + 1) kc ks j (pc + 3) L (koutl j2 x ++ rest) G' I' Q)) : kWP xs lay (d + 1) (kc2 + kc) (ks2 + ks) j pc L st G I Q := by
  intro X p l e R s m args below meth c H locs cells slots ls G0 F hcc hss hz he hM hS hl hL hv
  obtain ⟨fx, fb, fml, fown, fret, flk, fini, fws, ffr, flo, fW, fXs, fbs⟩ := id F
  obtain ⟨hok, hnl, hpop, hwd, hrl⟩ := hc
  have hkm := kOkM_of hok
  obtain ⟨as0, e1, e2, e3⟩ := kpop_spec hnl hpop
  rw [List.append_nil] at e1
  subst e1
  have hvr : ∀ v ∈ rest, kval G v := fun v hq => hv v (by rw [e3]; exact List.mem_append_right _ hq)
  have hva : ∀ v ∈ as, kval G v := fun v hq => hv v (by rw [e3]; exact List.mem_append_left _ (List.mem_reverse.mpr hq))
  refine W.size (fun hsz => ?_)
  have hsz2 := hM.size (Nat.le_trans fbs hS.1)
  have hszE : H.size = X.1 + G.1 := by omega
  have hMet := kMet h hok hva fXs hwd X l
  have e4 := e2
  subst has
  have hb0 := hva _ List.mem_cons_self
  obtain ⟨q, hqb, hq1, hq2, hq3⟩ := kvr hb0
  subst hqb
  have hr0 : kMr j2 = none := (hkm.2.2.2.2.2.2.2.2.2 hk).2.2
  have hstk : st.map (kcv X) = (As.map (kcv X)).reverse ++ .ref (X.1 + q) :: rest.map (kcv X) := by
    rw [e3, List.map_append, List.map_reverse, List.map_cons, List.reverse_cons, List.append_assoc]
    rfl
  have hrun := va_runIN (e := e) (below := below) (meth := meth) (H := H) (locs := locs) (cells := cells) (slots := slots) (g := F0 m pc ls ((As.map (kcv X)).reverse ++ .ref (X.1 + q) :: rest.map (kcv X))) (rest := rest.map (kcv X)) (As := As.map (kcv X)) (b := X.1 + q) ⟨fx, fb, fml, fown, fws⟩ hMet ⟨va_cnB (ret := none) (bytes := kMb j2) (maxL := kMl j2) (ws := kWs j2) (ws' := kWords) (rm := kRoom d kc2 ks2) (mc := kc2) (ms := ks2) (kMn j2) fws (kWs_good hok) (by unfold kWs; rw [hr0]) rfl rfl (fW.2.1.1 _ hw) (fws _ hkm.2.2.2.2.2.2.1) ⟨hkm.2.1, hkm.2.2.1, hkm.2.2.2.1⟩ ⟨by show d + 1 + 1 ≤ R.frames; omega, by show 8 + (kMl j2 + 11) + 60 * (d + 1) ≤ R.locals; have := hkm.2.2.2.2.1; omega⟩, (hkm.2.2.2.2.2.2.2.2.2 hk).2.1, fws _ (hkm.2.2.2.2.2.2.2.2.2 hk).1⟩ ⟨kPc_blind _ _ _ _ _ _, fun U hU hW => ⟨rfl, by rw [hU]; exact hszE, by rw [hU]; exact hM, fW.moved hW hS hU⟩⟩ rfl (by rw [List.length_map]; simp at e4; omega) hl.1 rfl (by have := kst_sum X rest; show 2 * 0 + _ ≤ 8; omega) hd ⟨by omega, by omega⟩
  rw [hstk]
  refine kcall (X := X) (lay := lay) (N := X.1 + G.1 + kc2) (G := G) hrun hS (fun x G' I' H1 locs1 hq hM1 hN hE hval hS1 => ?_)
  have h2 := hq X p l e R s m args below meth c H1 locs1 (cells + kc2) (slots + ks2) ls G0 F (by omega) (by omega) (by omega) (he.tr hE) hM1 hS1 hl (fun q hq => (hL q hq).ext hE) (fun v hv => by
    rcases List.mem_append.mp hv with hv | hv
    · exact koutl_val hval v hv
    · exact (hvr v hv).ext hE)
  rw [List.map_append, ← koutl_eq X] at h2
  rw [show cells + kc2 + kc = cells + (kc2 + kc) by omega, show slots + ks2 + ks = slots + (ks2 + ks) by omega, show s.heap.size + (cells + kc2) + kc = s.heap.size + cells + (kc2 + kc) by omega] at h2
  exact h2
theorem kr_iret {xs : KS} {lay : Bool} {d kc ks j pc : Nat} {L : KL} {st : List KV} {G : KG} {I : KI} {Q : KQ} {n : Nat} {x : Int} (hd : decode (kMb j) pc = .ok (.ireturn, 1)) (hr : kMr j = some .int) (hq : Q x G I) : kWP xs lay d 0 0 j pc L [(0, n, x)] G I Q := by
  intro X p l e R s m args below meth c H locs cells slots ls G0 F hc hs hz he hM hS hl hL hv
  obtain ⟨fx, fb, fml, fown, fret, flk, fini, fws, ffr, flo, ⟨fK, fN, fZ, fT⟩, fXs, fbs⟩ := id F
  have v1 := hv _ List.mem_cons_self
  have hrt : kRt j = 0 := by unfold kRt; rw [hr]
  have hout : kout X j (kRt j, kRn j, x) = some (kcv X (0, n, x)) := by rw [hrt]; unfold kout; rw [hr]; rfl
  have hq2 : ∀ t : State, t.heap = H → s.WarmedH t.vm → kQ X j lay (s.heap.size + cells + 0) G0 Q args s (.returned (some (kcv X (0, n, x)))) t := fun t ht _ =>
    ⟨⟨x, G, I, by rw [hout], hq, by rw [ht]; exact hM, by omega, he, by rw [hrt]; exact v1⟩, hS.F ht⟩
  exact W.iret fx fb (fret.trans hr) hq2 hS.2.2 hd flk
theorem kr_zret {xs : KS} {lay : Bool} {d kc ks j pc : Nat} {L : KL} {st : List KV} {G : KG} {I : KI} {Q : KQ} {n : Nat} {x : Int} (hd : decode (kMb j) pc = .ok (.ireturn, 1)) (hr : kMr j = some .boolean) (hz1 : x = 0 ∨ x = 1) (hq : Q x G I) : kWP xs lay d 0 0 j pc L [(0, n, x)] G I Q := by
  intro X p l e R s m args below meth c H locs cells slots ls G0 F hc hs hz he hM hS hl hL hv
  obtain ⟨fx, fb, fml, fown, fret, flk, fini, fws, ffr, flo, ⟨fK, fN, fZ, fT⟩, fXs, fbs⟩ := id F
  have v1 := hv _ List.mem_cons_self
  have hrt : kRt j = 0 := by unfold kRt; rw [hr]
  have hout : kout X j (kRt j, kRn j, x) = some (kcv X (0, n, x)) := by rw [hrt]; unfold kout; rw [hr]; rfl
  have hq2 : ∀ t : State, t.heap = H → s.WarmedH t.vm → kQ X j lay (s.heap.size + cells + 0) G0 Q args s (.returned (some (kcv X (0, n, x)))) t := fun t ht _ =>
    ⟨⟨x, G, I, by rw [hout], hq, by rw [ht]; exact hM, by omega, he, by rw [hrt]; exact v1⟩, hS.F ht⟩
  exact W.zret (v := Int32.ofInt x) fx fb (fret.trans hr) (by rcases hz1 with rfl | rfl <;> decide) hq2 hS.2.2 hd flk
theorem kr_lret {xs : KS} {lay : Bool} {d kc ks j pc : Nat} {L : KL} {st : List KV} {G : KG} {I : KI} {Q : KQ} {n : Nat} {x : Int} (hd : decode (kMb j) pc = .ok (.lreturn, 1)) (hr : kMr j = some .long) (hq : Q x G I) : kWP xs lay d 0 0 j pc L [(1, n, x)] G I Q := by
  intro X p l e R s m args below meth c H locs cells slots ls G0 F hc hs hz he hM hS hl hL hv
  obtain ⟨fx, fb, fml, fown, fret, flk, fini, fws, ffr, flo, ⟨fK, fN, fZ, fT⟩, fXs, fbs⟩ := id F
  have v1 := hv _ List.mem_cons_self
  have hrt : kRt j = 1 := by unfold kRt; rw [hr]
  have hout : kout X j (kRt j, kRn j, x) = some (kcv X (1, n, x)) := by rw [hrt]; unfold kout; rw [hr]; rfl
  have hq2 : ∀ t : State, t.heap = H → s.WarmedH t.vm → kQ X j lay (s.heap.size + cells + 0) G0 Q args s (.returned (some (kcv X (1, n, x)))) t := fun t ht _ =>
    ⟨⟨x, G, I, by rw [hout], hq, by rw [ht]; exact hM, by omega, he, by rw [hrt]; exact v1⟩, hS.F ht⟩
  exact W.lret fx fb (fret.trans hr) hq2 hS.2.2 hd flk
theorem kr_vret {xs : KS} {lay : Bool} {d kc ks j pc : Nat} {L : KL} {st : List KV} {G : KG} {I : KI} {Q : KQ}  (hd : decode (kMb j) pc = .ok (.return_, 1)) (hr : kMr j = none) (hq : Q 0 G I) : kWP xs lay d 0 0 j pc L [] G I Q := by
  intro X p l e R s m args below meth c H locs cells slots ls G0 F hc hs hz he hM hS hl hL hv
  obtain ⟨fx, fb, fml, fown, fret, flk, fini, fws, ffr, flo, ⟨fK, fN, fZ, fT⟩, fXs, fbs⟩ := id F
  have hrt : kRt j = 2 := by unfold kRt; rw [hr]
  have hout : kout X j (kRt j, kRn j, 0) = none := by unfold kout; rw [hr]
  have hq2 : ∀ t : State, t.heap = H → s.WarmedH t.vm → kQ X j lay (s.heap.size + cells + 0) G0 Q args s (.returned none) t := fun t ht _ =>
    ⟨⟨0, G, I, by rw [hout], hq, by rw [ht]; exact hM, by omega, he, by rw [hrt]; exact trivial⟩, hS.F ht⟩
  exact W.vret fx fb (fret.trans hr) hq2 hS.2.2 hd flk
theorem kr_aret {xs : KS} {lay : Bool} {d kc ks j pc : Nat} {L : KL} {st : List KV} {G : KG} {I : KI} {Q : KQ} {n : Nat} {x : Int} (hd : decode (kMb j) pc = .ok (.areturn, 1)) (hr : kMr j = some (.array .int)) (hn : n = 43) (hq : Q x G I) : kWP xs lay d 0 0 j pc L [(4, n, x)] G I Q := by
  intro X p l e R s m args below meth c H locs cells slots ls G0 F hc hs hz he hM hS hl hL hv
  obtain ⟨fx, fb, fml, fown, fret, flk, fini, fws, ffr, flo, ⟨fK, fN, fZ, fT⟩, fXs, fbs⟩ := id F
  have v1 := hv _ List.mem_cons_self
  subst hn
  have hrt : kRt j = 4 := by unfold kRt; rw [hr]
  have hrn : kRn j = 43 := by unfold kRn; rw [hr]
  have hout : kout X j (kRt j, kRn j, x) = some (kcv X (4, 43, x)) := by rw [hrt, hrn]; unfold kout; rw [hr]
  have hq2 : ∀ t : State, t.heap = H → s.WarmedH t.vm → kQ X j lay (s.heap.size + cells + 0) G0 Q args s (.returned (some (kcv X (4, 43, x)))) t := fun t ht _ =>
    ⟨⟨x, G, I, by rw [hout], hq, by rw [ht]; exact hM, by omega, he, by rw [hrt, hrn]; exact v1⟩, hS.F ht⟩
  exact W.aret fx fb (fret.trans hr) (Or.inr ⟨_, rfl⟩) (Or.inr ⟨_, rfl⟩) hq2 hS.2.2 hd flk
