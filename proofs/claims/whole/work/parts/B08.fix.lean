/-! THE LAW FROM ITS ENTRY in the machine's own words -/
theorem kR247 : kMr 247 = some .boolean ∧ kMl 247 = 4 ∧ kMk 247 ≠ 2 ∧ (kMy 247).cls = RL ∧ kMb 247 = code ∧ kMr 247 = ret := ⟨rfl, rfl, by decide, rfl, rfl, rfl⟩
def kG0 : KG := (0, fun _ => (0, 0), fun _ _ => 0)
theorem st_go {p : Program} {e : Env} {s : State} {m : MethodId} {below : List Frame} {meth : Method} {c : Code} {l : Launch} {b L : Nat} {ys : Nat → Int32} {ls : Array Slot} (hPl : ∀ xs P, XCh xs → PicOk P → PlOk xs P) (hL : L ≤ 384) (hx : p.tables.exec = Jvm.exec) (hb : c.code = code) (hr : meth.sig.returnType = ret) (hml : c.maxLocals = 4) (hown : s.vm.findClass RL = some m.cls) (hts : ∀ w ∈ lw_tbl, w.before #[Value.ref b] s = true) (hX : va_X b L ys s s.heap) (hbl : b < s.heap.size) (hlocks : meth.locks = false) (hgv : (Jvm.Cond.and given_1 narrow_1).before #[Value.ref b] s = true) (hl : lv_has ls 4 [(0, .ref b)]) :
    W p l e room_1 s m #[Value.ref b] below meth c s.heap [] 0 0 (fun t => ∃ o, t.status = .running ∧ Ended t below o ∧ o = .returned (some (.int 1)) ∧ Framed s o t [] 600000 7302250) (F0 m 0 ls []) := by
  obtain ⟨X, hX1, hX3, hW⟩ := st_world hL hts hX hbl hgv
  obtain ⟨hA, hK⟩ := stXs_all (ys := ys) hL
  obtain ⟨r1, r2, r3, r4, r5, r6⟩ := kR247
  have main : kWP (stXs L ys) false (0 + 81) 129 25666 247 0 [(0, 3, 0, 3)] [] kG0 (fun _ _ => 0) (fun v _ _ => v = 1) := lw_all hA hasO (hasM hA.2.1) (hasS hA.2.1) (fun P hP => hPl _ P hA.2.1 hP) rfl (fun _ _ => rfl)
  have hF : kFix (stXs L ys) X 247 (0 + 81) p room_1 s m #[Value.ref b] meth c := ⟨hx, hb.trans r5.symm, hml.trans r2.symm, by rw [r4]; exact hown, hr.trans r6.symm, hlocks, fun h => absurd h r3, fun w hw => hts w (List.mem_filter.mp hw).1, by decide, by decide, hW, hK, Nat.le_of_eq hX1⟩
  have hS0 : kSim X false kG0 (fun _ _ => 0) s.heap := ⟨fun k q h => by simp [kws, kG0] at h, fun a ha => absurd ha (Nat.not_lt_zero a), fun a ha => absurd ha (Nat.not_lt_zero a), fun h => by cases h⟩
  have hv3 : kcv X (3, 0, 3) = .ref b := by
    show Value.ref (X.2.2.2 (3 : Int).toNat) = _
    rw [show (3 : Int).toNat = 3 from rfl, hX3]
  have hgo := main X p l e room_1 s m #[Value.ref b] below meth c s.heap [] 0 0 ls kG0 hF (by decide) (by decide) (by rw [hX1]; rfl) (kExt.rf _) hS0 ⟨Nat.le_refl _, fun _ _ _ => rfl, fun q hq => absurd hq List.not_mem_nil⟩ (by
    rw [r2]
    refine ⟨hl.1, hl.2.1, fun q hq => ?_⟩
    have h1 : q = (0, kcv X (3, 0, 3)) := List.mem_singleton.mp hq
    rw [h1, hv3]
    exact hl.2.2 (0, .ref b) (List.mem_singleton.mpr rfl)) (fun q hq => by
    have h1 : q = (0, 3, 0, 3) := List.mem_singleton.mp hq
    rw [h1]
    exact ⟨by decide, by decide⟩) (fun v hv => absurd hv List.not_mem_nil)
  refine W.imp (fun t ht => ?_) hgo
  obtain ⟨o, h1, h2, ⟨⟨x, G', I', ho, hx1, -⟩, -⟩, Lq, ⟨f1, f2, f3⟩, hLq⟩ := ht
  have ho1 : o = .returned (some (.int 1)) := by
    rw [ho, hx1]
    rfl
  refine ⟨o, h1, h2, ho1, f1, f2, f3.weaken (fun y hy hlt => absurd hlt (Nat.not_lt.mpr ?_)) (by decide) (by decide)⟩
  have := hLq y hy
  show s.heap.size ≤ y.base
  rw [← hX1]
  exact this
