/-! PLAITS: all small words, by computation -/
def tst (x i : Nat) (S : List Nat × Nat) : List Nat × Nat := if S.2 = x then ((2 * i + 1) :: S.1, x + 1) else if S.2 = x + 1 then ((2 * i) :: S.1, x) else S
def tgo : List Nat → Nat → List Nat × Nat → List Nat × Nat
  | [], _, S => S
  | x :: u, i, S => tgo u (i + 1) (tst x i S)
def ParB (v : List Nat) : Bool := (List.range v.length).all (fun j => (List.range j).all (fun k => !(decide (v.getD j 0 = v.getD k 0)) || decide ((j + k) % 2 = 1)))
/-- what is looked at where a word gives one cord -/
def finP (n : Nat) (N : List Nat) : Bool := decide (N.length = 2 * n) && (decide N.Nodup && (ParB (N.map (fun c => c / 2)) && !(decide (canon (N.map (fun c => c / 2)) ∈ badW))))
def chkP (u : List Nat) : Nat → List Nat × Nat → Bool
  | 0, _ => false
  | f + 1, T => let T2 := tgo u 0 T; Nat.ble T2.1.length 14 && (if T2.2 = 0 then (if f = 0 then finP u.length T2.1.reverse else true) else chkP u f T2)
def allW (q : Nat) : Nat → (List Nat → Bool) → Bool
  | 0, f => f []
  | n + 1, f => (List.range q).all (fun x => allW q n (fun u => f (x :: u)))
theorem allW_ok {q : Nat} : ∀ (n : Nat) (f : List Nat → Bool), allW q n f = true → ∀ u : List Nat, u.length = n → (∀ x ∈ u, x < q) → f u = true
  | 0, f, h, u, hu, _ => by
    have : u = [] := List.length_eq_zero_iff.mp hu
    rw [this]; exact h
  | n + 1, f, h, [], hu, _ => by simp at hu
  | n + 1, f, h, x :: u, hu, hx => allW_ok n (fun u => f (x :: u)) (List.all_eq_true.mp h x (List.mem_range.mpr (hx x List.mem_cons_self))) u (by simpa using hu) (fun y hy => hx y (List.mem_cons_of_mem _ hy))
theorem plt4 : ∀ n, n < 7 → allW 3 n (fun u => chkP u 4 ([], 0)) = true := by decide +kernel
theorem plt47 : allW 3 7 (fun u => chkP u 4 ([], 0)) = true := by decide +kernel
theorem plt3 : ∀ n, n < 8 → allW 2 n (fun u => chkP u 3 ([], 0)) = true := by decide +kernel
theorem plt2 : ∀ n, n < 8 → allW 1 n (fun u => chkP u 2 ([], 0)) = true := by decide +kernel
def us (ws : Nat → Nat) (n : Nat) : List Nat := (List.range n).map (fun k => ws k / 2)
theorem plt_all {ws : Nat → Nat} {n m : Nat} (hm2 : 2 ≤ m) (hm : m ≤ 4) (hn : n ≤ 7) (hw : ∀ k, k < n → ws k < 2 * m - 2) : chkP (us ws n) m ([], 0) = true := by
  have hl : (us ws n).length = n := by unfold us; simp
  have hx : ∀ x ∈ us ws n, x < m - 1 := fun x hx => by
    unfold us at hx
    obtain ⟨k, hk, rfl⟩ := List.mem_map.mp hx
    have := hw k (List.mem_range.mp hk)
    omega
  rcases (by omega : m = 2 ∨ m = 3 ∨ m = 4) with e | e | e <;> subst e
  · exact allW_ok n _ (plt2 n (by omega)) _ hl hx
  · exact allW_ok n _ (plt3 n (by omega)) _ hl hx
  · by_cases h7 : n = 7
    · subst h7; exact allW_ok 7 _ plt47 _ hl hx
    · exact allW_ok n _ (plt4 n (by omega)) _ hl hx
/-! the same, of words with their signs -/
def dcw (ws : Nat → Nat) (c : Nat) : Nat × Bool × Bool := (c / 2, decide (c % 2 = 1) == decide (ws (c / 2) % 2 = 0), decide (ws (c / 2) % 2 = 0))
def rlT (ws : Nat → Nat) (T : List Nat × Nat) (S : VL × Nat) : Prop := S = (T.1.reverse.map (dcw ws), T.2)
theorem rlT_s {ws : Nat → Nat} {i : Nat} {T : List Nat × Nat} {S : VL × Nat} (h : rlT ws T S) : rlT ws (tst (ws i / 2) i T) (stg ws i S) := by
  unfold rlT at h
  subst h
  have d1 : dcw ws (2 * i + 1) = (i, decide (ws i % 2 = 0), decide (ws i % 2 = 0)) := by
    unfold dcw
    rw [show (2 * i + 1) / 2 = i by omega, decide_eq_true (show (2 * i + 1) % 2 = 1 by omega)]
    cases decide (ws i % 2 = 0) <;> rfl
  have d2 : dcw ws (2 * i) = (i, !(decide (ws i % 2 = 0)), decide (ws i % 2 = 0)) := by
    unfold dcw
    rw [show (2 * i) / 2 = i by omega, decide_eq_false (show ¬ (2 * i) % 2 = 1 by omega)]
    cases decide (ws i % 2 = 0) <;> rfl
  unfold rlT tst stg
  simp only
  by_cases h1 : T.2 = ws i / 2
  · rw [if_pos h1, if_pos h1]
    simp only [List.reverse_cons, List.map_append, List.map_cons, List.map_nil, d1]
  · rw [if_neg h1, if_neg h1]
    by_cases h2 : T.2 = ws i / 2 + 1
    · rw [if_pos h2, if_pos h2]
      simp only [List.reverse_cons, List.map_append, List.map_cons, List.map_nil, d2]
    · rw [if_neg h2, if_neg h2]
theorem tgo_app : ∀ (a b : List Nat) (i : Nat) (T : List Nat × Nat), tgo (a ++ b) i T = tgo b (i + a.length) (tgo a i T)
  | [], b, i, T => rfl
  | x :: a, b, i, T => by
    show tgo (a ++ b) (i + 1) (tst x i T) = tgo b (i + (a.length + 1)) (tgo a (i + 1) (tst x i T))
    rw [tgo_app a b (i + 1), show i + 1 + a.length = i + (a.length + 1) by omega]
theorem rlT_g {ws : Nat → Nat} {T : List Nat × Nat} {S : VL × Nat} (h : rlT ws T S) : ∀ n, rlT ws (tgo (us ws n) 0 T) (goa ws n S)
  | 0 => h
  | n + 1 => by
    have e : us ws (n + 1) = us ws n ++ [ws n / 2] := by unfold us; rw [List.range_succ, List.map_append]; rfl
    rw [e, tgo_app]
    have hl : (us ws n).length = n := by unfold us; simp
    rw [hl, Nat.zero_add]
    exact rlT_s (rlT_g h n)
def tcl (u : List Nat) : Nat → List Nat × Nat
  | 0 => ([], 0)
  | k + 1 => tgo u 0 (tcl u k)
theorem rlT_c (ws : Nat → Nat) (n : Nat) : ∀ k, rlT ws (tcl (us ws n) k) (clS ws n k)
  | 0 => rfl
  | k + 1 => rlT_g (rlT_c ws n k) n
theorem chk_s {u : List Nat} {m : Nat} : ∀ (f k : Nat), k + f = m → (∀ i, i < k → (tcl u (i + 1)).2 ≠ 0) → chkP u f (tcl u k) = true →
    ∃ r, k ≤ r ∧ r < m ∧ (tcl u (r + 1)).2 = 0 ∧ (∀ i, i < r → (tcl u (i + 1)).2 ≠ 0) ∧ (∀ j, k ≤ j → j ≤ r → (tcl u (j + 1)).1.length ≤ 14) ∧ (r + 1 = m → finP u.length (tcl u m).1.reverse = true)
  | 0, k, _, _, h => by unfold chkP at h; cases h
  | f + 1, k, hk, hz, h => by
    unfold chkP at h
    simp only at h
    rw [Bool.and_eq_true] at h
    obtain ⟨h1, h2⟩ := h
    have h1 : (tcl u (k + 1)).1.length ≤ 14 := Nat.le_of_ble_eq_true h1
    by_cases h0 : (tcl u (k + 1)).2 = 0
    · rw [if_pos (show (tgo u 0 (tcl u k)).2 = 0 from h0)] at h2
      refine ⟨k, Nat.le_refl _, by omega, h0, hz, fun j a b => by rw [show j = k by omega]; exact h1, fun e => ?_⟩
      rw [if_pos (by omega)] at h2
      rw [← e]; exact h2
    · rw [if_neg (show ¬ (tgo u 0 (tcl u k)).2 = 0 from h0)] at h2
      obtain ⟨r, a, b, c, d, e, g⟩ := chk_s (m := m) f (k + 1) (by omega) (all_step (p := fun i => (tcl u (i + 1)).2 ≠ 0) hz h0) h2
      refine ⟨r, by omega, b, c, d, fun j j1 j2 => ?_, g⟩
      by_cases hjk : j = k
      · rw [hjk]; exact h1
      · exact e j (by omega) j2
theorem ParB_ok {v : List Nat} (h : ParB v = true) : ParL v := by
  have key : ∀ j k, j < v.length → k < j → v.getD j 0 = v.getD k 0 → (j + k) % 2 = 1 := fun j k hj hk e => by
    have h1 := List.all_eq_true.mp (List.all_eq_true.mp h j (List.mem_range.mpr hj)) k (List.mem_range.mpr hk)
    rw [decide_eq_true e] at h1
    simpa using h1
  intro j k hj hk hjk e
  rcases Nat.lt_or_ge k j with g | g
  · have := key j k hj g e
    omega
  · have := key k j hk (by omega) e.symm
    omega
/-- a word's closing: it comes round within m rounds; what a cord looks like -/
theorem cls_ok {ws : Nat → Nat} {n m : Nat} (hm2 : 2 ≤ m) (hm : m ≤ 4) (hn : n ≤ 7) (hw : ∀ k, k < n → ws k < 2 * m - 2) : clf ws n m < m ∧ (∀ j, j ≤ clf ws n m → (clS ws n (j + 1)).1.length ≤ 14) ∧
    (clO ws n m = true → ∃ N : List Nat, (clS ws n m).1 = N.map (dcw ws) ∧ N.length = 2 * n ∧ N.Nodup ∧ (∀ c ∈ N, c < 2 * n) ∧ ParL (N.map (fun c => c / 2)) ∧ canon (N.map (fun c => c / 2)) ∉ badW) := by
  obtain ⟨r, _, r1, r2, r3, r4, r5⟩ := chk_s (m := m) m 0 (by omega) (fun i hi => absurd hi (Nat.not_lt_zero i)) (plt_all hm2 hm hn hw)
  have e2 : ∀ k, (clS ws n k).2 = (tcl (us ws n) k).2 := fun k => by
    have h := rlT_c ws n k
    unfold rlT at h
    rw [h]
  have e1 : ∀ k, (clS ws n k).1 = (tcl (us ws n) k).1.reverse.map (dcw ws) := fun k => by
    have h := rlT_c ws n k
    unfold rlT at h
    rw [h]
  have hr : clf ws n m = r := fnd_eq r1 (decide_eq_true (by rw [e2]; exact r2)) (fun j hj => decide_eq_false (by rw [e2]; exact r3 j hj))
  rw [hr]
  refine ⟨r1, fun j hj => ?_, fun hO => ?_⟩
  · have := r4 j (Nat.zero_le _) hj
    rw [e1]
    simpa using this
  · unfold clO at hO
    have hO := of_decide_eq_true hO
    rw [hr] at hO
    have hf := r5 hO
    have hl : (us ws n).length = n := by unfold us; simp
    rw [hl] at hf
    unfold finP at hf
    rw [Bool.and_eq_true, Bool.and_eq_true, Bool.and_eq_true] at hf
    obtain ⟨f1, f2, f3, f4⟩ := hf
    refine ⟨(tcl (us ws n) m).1.reverse, e1 m, of_decide_eq_true f1, of_decide_eq_true f2, fun c hc => ?_, ParB_ok f3, ?_⟩
    · have : dcw ws c ∈ (clS ws n m).1 := by rw [e1]; exact List.mem_map.mpr ⟨c, hc, rfl⟩
      have := clS_mem this
      unfold dcw at this
      simp only at this
      omega
    · rw [Bool.not_eq_true'] at f4
      exact of_decide_eq_false f4
theorem clP_l {ws : Nat → Nat} {n m : Nat} (h : clO ws n m = true) : min (clf ws n m + 1) m = m := by
  unfold clO at h
  have := of_decide_eq_true h
  omega
theorem cls_nm {ws : Nat → Nat} {n m : Nat} (hm2 : 2 ≤ m) (hm : m ≤ 4) (hn : n ≤ 7) (hw : ∀ k, k < n → ws k < 2 * m - 2) (hO : clO ws n m = true) : (clS ws n m).1.length = 2 * n ∧ (∀ q ∈ (clS ws n m).1, q.1 < n ∧ q.2.2 = decide (ws q.1 % 2 = 0)) ∧ (∀ x, x ∈ (clS ws n m).1.map (fun q => q.1) ↔ x < n) ∧ PicOk (clP ws n m) := by
  obtain ⟨_, _, h3⟩ := cls_ok hm2 hm hn hw
  obtain ⟨N, a1, a2, a3, a4, a5, a6⟩ := h3 hO
  have hall : ∀ c, c < 2 * n → c ∈ N := fun c hc => by
    refine Classical.byContradiction (fun hh => ?_)
    have := nd_le (2 * n) (c :: N) (List.nodup_cons.mpr ⟨hh, a3⟩) (fun x hx => by
      rcases List.mem_cons.mp hx with e | hx
      · rw [e]; exact hc
      · exact a4 x hx)
    simp at this
    omega
  have hnames : ∀ x, x ∈ (clS ws n m).1.map (fun q => q.1) ↔ x < n := fun x => by
    rw [a1, List.map_map, List.mem_map]
    constructor
    · rintro ⟨c, hc, e⟩
      have := a4 c hc
      have e : c / 2 = x := e
      omega
    · intro hx
      exact ⟨2 * x, hall _ (by omega), by show 2 * x / 2 = x; omega⟩
  refine ⟨by rw [a1, List.length_map, a2], fun q hq => ?_, hnames, ?_⟩
  · rw [a1] at hq
    obtain ⟨c, hc, rfl⟩ := List.mem_map.mp hq
    have := a4 c hc
    exact ⟨by show c / 2 < n; omega, rfl⟩
  · unfold clP
    rw [clP_l hO]
    have hnms : nms (clS ws n m).1 = N.map (fun c => c / 2) := by
      unfold nms
      rw [a1, List.map_map]; rfl
    have hW : PicW (bldF bs0 (clS ws n m).1).2 := by
      refine bld_w ?_ (fun q hq b => ?_) ?_
      · rw [a1, List.map_map]
        refine nodup_map a3 (fun x _ y _ e => ?_)
        have e := Prod.mk.inj e
        obtain ⟨e1, e2⟩ : x / 2 = y / 2 ∧ (decide (x % 2 = 1) == decide (ws (x / 2) % 2 = 0)) = (decide (y % 2 = 1) == decide (ws (y / 2) % 2 = 0)) := e
        rw [e1] at e2
        have : decide (x % 2 = 1) = decide (y % 2 = 1) := by
          generalize decide (x % 2 = 1) = p at *
          generalize decide (y % 2 = 1) = q at *
          generalize decide (ws (y / 2) % 2 = 0) = s at *
          cases p <;> cases q <;> cases s <;> simp at e2 ⊢
        have := decide_eq_decide.mp this
        omega
      · rw [a1] at hq ⊢
        obtain ⟨c, hc, rfl⟩ := List.mem_map.mp hq
        have := a4 c hc
        by_cases hb : b = decide (ws (c / 2) % 2 = 0)
        · refine ⟨dcw ws (2 * (c / 2) + 1), List.mem_map.mpr ⟨_, hall _ (by omega), rfl⟩, ?_, ?_⟩
          · show (2 * (c / 2) + 1) / 2 = c / 2; omega
          · show (decide ((2 * (c / 2) + 1) % 2 = 1) == decide (ws ((2 * (c / 2) + 1) / 2) % 2 = 0)) = b
            rw [decide_eq_true (show (2 * (c / 2) + 1) % 2 = 1 by omega), show (2 * (c / 2) + 1) / 2 = c / 2 by omega, hb]
            cases decide (ws (c / 2) % 2 = 0) <;> rfl
        · refine ⟨dcw ws (2 * (c / 2)), List.mem_map.mpr ⟨_, hall _ (by omega), rfl⟩, ?_, ?_⟩
          · show (2 * (c / 2)) / 2 = c / 2; omega
          · show (decide ((2 * (c / 2)) % 2 = 1) == decide (ws ((2 * (c / 2)) / 2) % 2 = 0)) = b
            rw [decide_eq_false (show ¬ (2 * (c / 2)) % 2 = 1 by omega), show (2 * (c / 2)) / 2 = c / 2 by omega]
            generalize decide (ws (c / 2) % 2 = 0) = s at *
            cases b <;> cases s <;> simp at hb ⊢
      · show (nubF [] ((clS ws n m).1.map (fun q => q.1))).length ≤ 7
        rw [nub_len hnames]
        exact hn
    refine hW.ok ?_ ?_
    · rw [bld_nm, hnms]
      exact canon_par a5
    · rw [bld_nm, hnms]
      exact a6
theorem hasCl : ClOk := fun ws n m hm2 hm hn hw => ⟨fun k hk hi => by
  obtain ⟨a, b, _⟩ := cls_ok hm2 hm hn hw
  refine b k ?_
  rcases Nat.lt_or_ge (clf ws n m) k with g | g
  · have := of_decide_eq_true (fnd_spec a)
    exact absurd this (hi _ g)
  · exact g, fun hO => (cls_nm hm2 hm hn hw hO).2.2.2.w.rg⟩
theorem hasO : Owed := ⟨fun _ h => h.w.rg, hasCl, fun _ h hg => wot_ok h hg⟩
