/-! LIES: bodies that run -/
def ownL : List Int := [1, 10, 11, 2, 20, 0, 0, 0, 0, 30, 0, 0, 0, 41, 40, 0, 0, 0, 0, 50, 0, 0, 60, 0, 70, 0, 0, 0, 0, 80, 0, 81]
def abvL : List Int := [-1, 0, 0, 2, 1, 0, 0, 2]
def XLie (xs : KS) : Prop := (xs 1).1 = 8 ∧ (∀ k : Nat, k < 8 → (xs 1).2 k = abvL.getD k 0) ∧ (xs 2).1 = 32 ∧ ∀ k : Nat, k < 32 → (xs 2).2 k = ownL.getD k 0
/-- the kind that has the body of an act -/
def clm (a : Nat) : Nat → Nat → Nat
  | 0, k => k
  | u + 1, k => if k = 0 then 0 else if ownL.getD (4 * k + a) 0 ≠ 0 then k else clm a u (abvL.getD k 0).toNat
def CAct (K tr : List Int) (num kd : Int) (I : KI) : Prop := CLie K tr I ∧ I 37 4 = num ∧ I 37 5 = kd
def lif (I I' : KI) : Prop := ∀ a k, ¬ (a = 37 ∧ k = 3) → a ≠ 39 → I' a k = I a k
theorem lif.rf (I : KI) : lif I I := fun _ _ _ _ => rfl
theorem lif.tr {I J K : KI} (h : lif I J) (g : lif J K) : lif I K := fun a k h1 h2 => (g a k h1 h2).trans (h a k h1 h2)
theorem abv_ok : ∀ k, k < 8 → k ≠ 0 → 0 ≤ abvL.getD k 0 ∧ (abvL.getD k 0).toNat < 8 := by decide
theorem clm_lt : ∀ k, k < 8 → ∀ a, a < 4 → clm a 8 k < 8 := by decide
theorem run_climb {xs : KS} {d a dep : Nat} {x : Int} {G : KG} {I : KI} {Q : KQ} (hX : XLie xs) (ha : a < 4) : ∀ (u i k : Nat), i + u = 8 → k < 8 → kWP xs true (d) 0 0 29 45 [(0, 12, 0, 37), (2, 0, 0, (a : Int)), (3, 0, 0, x), (4, 0, 0, (dep : Int)), (5, 0, 0, (clm a u k : Int))] [] G I Q → kWP xs true (d) 0 0 29 6 [(0, 12, 0, 37), (2, 0, 0, (a : Int)), (3, 0, 0, x), (4, 0, 0, (dep : Int)), (5, 0, 0, (k : Int)), (6, 0, 0, (i : Int))] [] G I Q := by
  intro u
  induction u with
  | zero => intro i k hi hk h; exact b_Lies_run_6 ⟨fun _ => h, fun h1 => by omega⟩
  | succ u ih =>
    intro i k hi hk h
    have e : w32 (w32 (4 * (k : Int)) + (a : Int)) = ((4 * k + a : Nat) : Int) := by rw [w32_id (x := 4 * (k : Int)) (by omega) (by omega), w32_id (by omega) (by omega)]; omega
    unfold clm at h
    refine b_Lies_run_6 ⟨fun h1 => by omega, fun _ => ⟨fun h1 => ?_, fun h1 => ?_⟩⟩
    · rw [if_pos (by omega)] at h
      rw [show (k : Int) = ((0 : Nat) : Int) by omega]; exact h
    · rw [if_neg (by omega)] at h
      rw [e, hX.2.2.1, hX.2.2.2 _ (by omega), hX.1]
      refine ⟨by omega, fun h2 => ?_, fun h2 => ⟨by omega, ?_⟩⟩
      · rw [if_pos h2] at h; exact h
      · rw [if_neg (fun hh => hh h2)] at h
        have hb := abv_ok k hk (by omega)
        have ih := ih (i + 1) (abvL.getD k 0).toNat (by omega) hb.2 h
        rw [hX.2.1 k hk, w32_id (by omega) (by omega)]
        rw [show (((abvL.getD k 0).toNat : Nat) : Int) = abvL.getD k 0 by omega] at ih
        exact ih
theorem getD_app1' {l : List Int} {x : Int} {k : Nat} (h : k < l.length + 1) : (l ++ [x]).getD k 0 = if k = l.length then x else l.getD k 0 := by
  by_cases hk : k = l.length
  · rw [if_pos hk, getD_app1 hk]
  · rw [if_neg hk, getD_app0 (by omega)]
theorem lt32 {a b : Nat} (h : a < 8) (g : b < 4) : 4 * a + b < 32 := by omega
theorem in32 {a b : Nat} (h : a < 8) (g : b < 4) : (0 : Int) ≤ ((4 * a + b : Nat) : Int) ∧ ((4 * a + b : Nat) : Int) < ((32 : Nat) : Int) := by omega
theorem in8 {a : Nat} (h : a < 8) : (0 : Int) ≤ (a : Int) ∧ (a : Int) < ((8 : Nat) : Int) := by omega
theorem t_Lies_run {xs : KS} {d a k dep at' : Nat} {x b ab num kd : Int} {K tr : List Int} {G : KG} {I : KI} {Q : KQ} (hX : XLie xs) (hC : CAct K tr num kd I) (ht : tr.length < 1000) (ha : a < 4) (hk : k < 8) (hd : dep ≤ 40)
    (e1 : clm a 8 k = at') (e2 : ownL.getD (4 * at' + a) 0 = b) (e3 : abvL.getD at' 0 = ab) (h : ∀ I' : KI, CAct K (tr ++ [b]) num kd I' → lif I I' → kWP xs true (d) 0 0 30 0 [(0, 12, 0, 37), (1, 0, 0, b), (2, 0, 0, ab), (3, 0, 0, x), (4, 0, 0, ((dep + 1 : Nat) : Int))] [] G I' Q) : kWP xs true (d + 1) 0 0 29 0 [(0, 12, 0, 37), (1, 0, 0, (k : Int)), (2, 0, 0, (a : Int)), (3, 0, 0, x), (4, 0, 0, (dep : Int))] [] G I Q := by
  have hlt := clm_lt k hk a ha
  refine b_Lies_run_0 (run_climb hX ha 8 0 k rfl hk ?_)
  rw [e1] at hlt ⊢
  obtain ⟨⟨c1, c2, c3, c4, c5⟩, c6, c7⟩ := hC
  have e : w32 (w32 (4 * (at' : Int)) + (a : Int)) = ((4 * at' + a : Nat) : Int) := by rw [w32_id (x := 4 * (at' : Int)) (by omega) (by omega), w32_id (by omega) (by omega)]; omega
  refine b_Lies_run_45 ⟨fun h1 => by omega, fun _ => ⟨fun _ => ?_, fun h1 => by omega⟩⟩
  rw [e, hX.2.2.1, hX.2.2.2 _ (lt32 hlt ha), hX.1, hX.2.1 _ hlt, e2, e3, c4]
  have i32 := in32 hlt ha
  have i8 := in8 hlt
  clear e1 e2 e3 e hX
  have go : ∀ J : KI, J 37 3 = (tr.length : Int) + 1 → (∀ a k, ¬ (a = 37 ∧ k = 3) → ¬ (a = 39 ∧ k = (tr.length : Int)) → J a k = I a k) → (tr.length < 24 → J 39 (tr.length : Int) = b) → kWP xs true (d) 0 0 30 0 [(0, 12, 0, 37), (1, 0, 0, b), (2, 0, 0, ab), (3, 0, 0, x), (4, 0, 0, ((dep + 1 : Nat) : Int))] [] G J Q := fun J g1 g2 g3 => by
    refine h J ⟨⟨by rw [g2 _ _ (by omega) (by omega)]; exact c1, c2, fun i hi => by rw [g2 _ _ (by omega) (by omega)]; exact c3 i hi, by rw [g1]; simp, fun i hi h24 => ?_⟩, by rw [g2 _ _ (by omega) (by omega)]; exact c6, by rw [g2 _ _ (by omega) (by omega)]; exact c7⟩ (fun a k n1 n2 => g2 a k n1 (by omega))
    rw [List.length_append, List.length_singleton] at hi
    rw [getD_app1' hi]
    by_cases hi2 : i = tr.length
    · rw [if_pos hi2, hi2]; exact g3 (by omega)
    · rw [if_neg hi2, g2 _ _ (by omega) (by omega)]; exact c5 i (by omega) h24
  have ed : w32 ((dep : Int) + 1) = ((dep + 1 : Nat) : Int) := by rw [w32_id (by omega) (by omega)]; omega
  rw [ed]
  refine ⟨i32, fun h1 J1 e1 => ⟨i8, go J1 ?_ (fun a k n1 _ => ?_) (fun h2 => by omega)⟩, fun h1 => ⟨by omega, fun J2 e2 J3 e3 => ⟨i8, go J3 ?_ (fun a k n1 n2 => ?_) (fun _ => ?_)⟩⟩⟩
  · rw [e1, kst_s, w32_id (by omega) (by omega)]
  · rw [e1, kst_n (by omega)]
  · rw [e3, kst_s, e2, kst_n (by omega), c4, w32_id (by omega) (by omega)]
  · rw [e3, kst_n (by omega), e2, kst_n (by omega)]
  · rw [e3, kst_n (by omega), e2, kst_s]
/-- what an act of a body's kind answers, and the bodies that run -/
def lieV (num : Int) (k : Nat) (x : Int) : Int := if k = 1 ∨ k = 4 then w32 (w32 (x + num) + 3) else if k = 6 then w32 (w32 (x + num) * 2) else w32 (x + num)
def lieT (k : Nat) : List Int := if k = 1 ∨ k = 4 then [20, 1] else if k = 6 then [70, 1] else [1]
def undV (num : Int) (kd k : Nat) (x : Int) : Int := if k = 3 then w32 (kixor x num * 3) else if k = 5 then w32 (kixor x num - lieV num kd 2) else kixor x num
def undT (kd k : Nat) : List Int := if k = 3 then [40, 11] else if k = 5 then [60, 11] ++ lieT kd else [11]
def croV (num : Int) (kd k : Nat) (x : Int) : Int :=
  if k = 3 then w32 (-(w32 (lieV num kd (w32 (x + 1)) * 2))) else if k = 7 then w32 (w32 (-(w32 (lieV num kd x * 2))) + undV num kd kd 2) else if k = 2 then w32 (-(w32 (lieV num kd x * 2))) else w32 (lieV num kd x * 2)
def croT (kd k : Nat) : List Int := if k = 3 then [41, 30, 10] ++ lieT kd else if k = 7 then [80, 30, 10] ++ lieT kd ++ undT kd kd else if k = 2 then [30, 10] ++ lieT kd else [10] ++ lieT kd
def telV (num : Int) (kd k : Nat) (x : Int) : Int :=
  let v := w32 (croV num kd kd x - undV num kd kd 1)
  if k = 4 then kixor v 5 else if k = 7 then w32 (v - 1) else v
def telT (kd k : Nat) : List Int := (if k = 4 then [50] else if k = 7 then [81] else []) ++ [2] ++ croT kd kd ++ undT kd kd
def RunOk (xs : KS) (d D act k : Nat) (num : Int) (kd : Nat) (V : Int → Int) (T : List Int) : Prop :=
  ∀ (x : Int) (dep : Nat) (K tr : List Int) (G : KG) (I : KI) (Q : KQ), CAct K tr num kd I → tr.length + T.length < 500 → dep ≤ D → (∀ I' : KI, CAct K (tr ++ T) num kd I' → lif I I' → Q (V x) G I') → kWP xs true (d) 0 0 29 0 [(0, 12, 0, 37), (1, 0, 0, (k : Int)), (2, 0, 0, (act : Int)), (3, 0, 0, x), (4, 0, 0, (dep : Int))] [] G I Q
theorem lie_0 {xs : KS} {d k kd : Nat} {num : Int} (hX : XLie xs) (hk : k < 8) (e : clm 0 8 k = 0) : RunOk xs (d + 2) 40 0 k num kd (fun x => w32 (x + num)) [1] := by
  intro x dep K tr G I Q hC ht hd h
  refine t_Lies_run hX hC (by omega) (by omega) hk hd e rfl rfl (fun J hJ hf => b_Lies_work_0 ⟨fun _ => ?_, fun hh => absurd rfl hh⟩)
  have := h J hJ hf
  rw [hJ.2.1]; exact this
theorem lie_s {xs : KS} {d k kd : Nat} {num b : Int} {at' : Nat} {V : Int → Int} (hX : XLie xs) (hk : k < 8) (e : clm 0 8 k = at') (e2 : ownL.getD (4 * at' + 0) 0 = b) (e3 : abvL.getD at' 0 = 0)
    (hw : ∀ (x : Int) (D : Int) (G : KG) (I : KI) (Q : KQ), kWP xs true (d + 2) 0 0 29 0 [(0, 12, 0, 37), (1, 0, 0, 0), (2, 0, 0, 0), (3, 0, 0, x), (4, 0, 0, D)] [] G I (fun r G' I' => Q (V r) G' I') → kWP xs true (d + 3) 0 0 30 0 [(0, 12, 0, 37), (1, 0, 0, b), (2, 0, 0, 0), (3, 0, 0, x), (4, 0, 0, D)] [] G I Q) : RunOk xs (d + 4) 38 0 k num kd (fun x => V (w32 (x + num))) [b, 1] := by
  intro x dep K tr G I Q hC ht hd h
  have ht2 : tr.length + 2 < 500 := ht
  refine t_Lies_run hX hC (by omega) (by omega) hk (by omega) e e2 e3 (fun J hJ hf => hw x _ G J Q (lie_0 (d := d) hX (k := 0) (by omega) rfl x (dep + 1) K _ G J _ hJ (by rw [List.length_append]; simp only [List.length_cons, List.length_nil]; omega) (by omega) (fun J2 hJ2 hf2 => h J2 (by rw [List.append_assoc] at hJ2; exact hJ2) (hf.tr hf2))))
theorem lie_c : ∀ k, k < 8 → ((k = 1 ∨ k = 4) ∧ clm 0 8 k = 1) ∨ (¬ (k = 1 ∨ k = 4) ∧ k = 6 ∧ clm 0 8 k = 6) ∨ (¬ (k = 1 ∨ k = 4) ∧ k ≠ 6 ∧ clm 0 8 k = 0) := by decide
theorem RunOk.wk {xs : KS} {d d' D D' act k kd : Nat} {num : Int} {V V' : Int → Int} {T T' : List Int} (h : RunOk xs d D act k num kd V T) (h1 : d = d') (h2 : D' ≤ D) (h3 : V = V') (h4 : T = T') : RunOk xs d' D' act k num kd V' T' := by
  subst h1 h3 h4
  exact fun x dep K tr G I Q hC ht hd hq => h x dep K tr G I Q hC ht (by omega) hq
theorem run_lies {xs : KS} {d k kd : Nat} {num : Int} (hX : XLie xs) (hk : k < 8) : RunOk xs (d + 4) 38 0 k num kd (lieV num k) (lieT k) := by
  rcases lie_c k hk with ⟨a, e⟩ | ⟨a, b, e⟩ | ⟨a, b, e⟩
  · exact (lie_s (d := d) (b := 20) (V := fun r => w32 (r + 3)) hX hk e rfl rfl (fun x D G I Q hq => b_Lies_work_0 ⟨fun hh => absurd hh (by decide), fun _ => ⟨fun hh => absurd hh (by decide), fun _ => ⟨fun hh => absurd hh (by decide), fun _ => ⟨fun hh => absurd hh (by decide), fun _ => ⟨fun _ => hq, fun hh => absurd rfl hh⟩⟩⟩⟩⟩)).wk rfl (Nat.le_refl _) (by funext x; unfold lieV; rw [if_pos a]) (by unfold lieT; rw [if_pos a])
  · exact (lie_s (d := d) (b := 70) (V := fun r => w32 (r * 2)) hX hk e rfl rfl (fun x D G I Q hq => b_Lies_work_0 ⟨fun hh => absurd hh (by decide), fun _ => ⟨fun hh => absurd hh (by decide), fun _ => ⟨fun hh => absurd hh (by decide), fun _ => ⟨fun hh => absurd hh (by decide), fun _ => ⟨fun hh => absurd hh (by decide), fun _ => ⟨fun hh => absurd hh (by decide), fun _ => ⟨fun hh => absurd hh (by decide), fun _ => ⟨fun hh => absurd hh (by decide), fun _ => ⟨fun hh => absurd hh (by decide), fun _ => ⟨fun hh => absurd hh (by decide), fun _ => ⟨fun _ => hq, fun hh => absurd rfl hh⟩⟩⟩⟩⟩⟩⟩⟩⟩⟩⟩)).wk rfl (Nat.le_refl _) (by funext x; unfold lieV; rw [if_neg a, if_pos b]) (by unfold lieT; rw [if_neg a, if_pos b])
  · exact (lie_0 (d := d + 2) hX hk e).wk rfl (by omega) (by funext x; unfold lieV; rw [if_neg a, if_neg b]) (by unfold lieT; rw [if_neg a, if_neg b])
theorem lieT_le (k : Nat) : (lieT k).length ≤ 2 := by unfold lieT; split <;> (try split) <;> simp
theorem und_0 {xs : KS} {d k kd : Nat} {num : Int} (hX : XLie xs) (hk : k < 8) (e : clm 2 8 k = 0) : RunOk xs (d + 2) 40 2 k num kd (fun x => kixor x num) [11] := by
  intro x dep K tr G I Q hC ht hd h
  refine t_Lies_run hX hC (by omega) (by omega) hk hd e rfl rfl (fun J hJ hf => b_Lies_work_0 ⟨fun hh => absurd hh (by decide), fun _ => ⟨fun hh => absurd hh (by decide), fun _ => ⟨fun hh => absurd hh (by decide), fun _ => ⟨fun _ => ?_, fun hh => absurd rfl hh⟩⟩⟩⟩)
  have := h J hJ hf
  rw [hJ.2.1]; exact this
theorem und_c : ∀ k, k < 8 → (k = 3 ∧ clm 2 8 k = 3) ∨ (k ≠ 3 ∧ k = 5 ∧ clm 2 8 k = 5) ∨ (k ≠ 3 ∧ k ≠ 5 ∧ clm 2 8 k = 0) := by decide
theorem len_app {α : Type} (l m : List α) : (l ++ m).length = l.length + m.length := List.length_append
theorem run_undoes {xs : KS} {d k kd : Nat} {num : Int} (hX : XLie xs) (hk : k < 8) (hkd : kd < 8) : RunOk xs (d + 6) 30 2 k num kd (undV num kd k) (undT kd k) := by
  have hL := lieT_le kd
  rcases und_c k hk with ⟨a, e⟩ | ⟨a, b, e⟩ | ⟨a, b, e⟩
  · intro x dep K tr G I Q hC ht hd h
    have eV : undV num kd k x = w32 (kixor x num * 3) := by unfold undV; rw [if_pos a]
    have eT : undT kd k = [40, 11] := by unfold undT; rw [if_pos a]
    rw [eT] at ht h
    rw [eV] at h
    have ht2 : tr.length + 2 < 500 := ht
    refine t_Lies_run hX hC (by omega) (by omega) hk (by omega) e rfl rfl (fun J hJ hf => b_Lies_work_0 ⟨fun hh => absurd hh (by decide), fun _ => ⟨fun hh => absurd hh (by decide), fun _ => ⟨fun hh => absurd hh (by decide), fun _ => ⟨fun hh => absurd hh (by decide), fun _ => ⟨fun hh => absurd hh (by decide), fun _ => ⟨fun hh => absurd hh (by decide), fun _ => ⟨fun _ => ?_, fun hh => absurd rfl hh⟩⟩⟩⟩⟩⟩⟩)
    exact und_0 (d := d + 2) hX (k := 2) (by omega) rfl x (dep + 1) K _ G J _ hJ (by rw [len_app]; simp only [List.length_cons, List.length_nil]; omega) (by omega) (fun J2 hJ2 hf2 => h J2 (by rw [List.append_assoc] at hJ2; exact hJ2) (hf.tr hf2))
  · intro x dep K tr G I Q hC ht hd h
    have eV : undV num kd k x = w32 (kixor x num - lieV num kd 2) := by unfold undV; rw [if_neg a, if_pos b]
    have eT : undT kd k = [60, 11] ++ lieT kd := by unfold undT; rw [if_neg a, if_pos b]
    rw [eT] at ht h
    rw [eV] at h
    rw [len_app] at ht
    simp only [List.length_cons, List.length_nil] at ht
    refine t_Lies_run hX hC (by omega) (by omega) hk (by omega) e rfl rfl (fun J hJ hf => b_Lies_work_0 ⟨fun hh => absurd hh (by decide), fun _ => ⟨fun hh => absurd hh (by decide), fun _ => ⟨fun hh => absurd hh (by decide), fun _ => ⟨fun hh => absurd hh (by decide), fun _ => ⟨fun hh => absurd hh (by decide), fun _ => ⟨fun hh => absurd hh (by decide), fun _ => ⟨fun hh => absurd hh (by decide), fun _ => ⟨fun hh => absurd hh (by decide), fun _ => ⟨fun hh => absurd hh (by decide), fun _ => ⟨fun _ => ?_, fun hh => absurd rfl hh⟩⟩⟩⟩⟩⟩⟩⟩⟩⟩)
    refine und_0 (d := d + 2) hX (k := 0) (by omega) rfl x (dep + 1) K _ G J _ hJ (by rw [len_app]; simp only [List.length_cons, List.length_nil]; omega) (by omega) (fun J2 hJ2 hf2 => ?_)
    rw [hJ2.2.2]
    refine run_lies (d := d) hX hkd 2 (dep + 1) K _ G J2 _ hJ2 (by simp only [len_app, List.length_cons, List.length_nil]; omega) (by omega) (fun J3 hJ3 hf3 => h J3 (by simp only [List.append_assoc] at hJ3 ⊢; exact hJ3) ((hf.tr hf2).tr hf3))
  · exact (und_0 (d := d + 4) hX hk e).wk rfl (by omega) (by funext x; unfold undV; rw [if_neg a, if_neg b]) (by unfold undT; rw [if_neg a, if_neg b])
theorem undT_le (kd k : Nat) : (undT kd k).length ≤ 4 := by
  have := lieT_le kd
  unfold undT; split
  · simp
  · split
    · simp; omega
    · simp
theorem cro_0 {xs : KS} {d k kd : Nat} {num : Int} (hX : XLie xs) (hk : k < 8) (hkd : kd < 8) (e : clm 1 8 k = 0) : RunOk xs (d + 6) 30 1 k num kd (fun x => w32 (lieV num kd x * 2)) ([10] ++ lieT kd) := by
  intro x dep K tr G I Q hC ht hd h
  have hL := lieT_le kd
  simp only [len_app, List.length_cons, List.length_nil] at ht
  refine t_Lies_run hX hC (by omega) (by omega) hk (by omega) e rfl rfl (fun J hJ hf => b_Lies_work_0 ⟨fun hh => absurd hh (by decide), fun _ => ⟨fun hh => absurd hh (by decide), fun _ => ⟨fun _ => ?_, fun hh => absurd rfl hh⟩⟩⟩)
  rw [hJ.2.2]
  exact run_lies (d := d) hX hkd x (dep + 1) K _ G J _ hJ (by simp only [len_app, List.length_cons, List.length_nil]; omega) (by omega) (fun J2 hJ2 hf2 => h J2 (by simp only [List.append_assoc] at hJ2 ⊢; exact hJ2) (hf.tr hf2))
theorem cro_2 {xs : KS} {d k kd : Nat} {num : Int} (hX : XLie xs) (hk : k < 8) (hkd : kd < 8) (e : clm 1 8 k = 2) : RunOk xs (d + 8) 28 1 k num kd (fun x => w32 (-(w32 (lieV num kd x * 2)))) ([30, 10] ++ lieT kd) := by
  intro x dep K tr G I Q hC ht hd h
  have hL := lieT_le kd
  simp only [len_app, List.length_cons, List.length_nil] at ht
  refine t_Lies_run hX hC (by omega) (by omega) hk (by omega) e rfl rfl (fun J hJ hf => b_Lies_work_0 ⟨fun hh => absurd hh (by decide), fun _ => ⟨fun hh => absurd hh (by decide), fun _ => ⟨fun hh => absurd hh (by decide), fun _ => ⟨fun hh => absurd hh (by decide), fun _ => ⟨fun hh => absurd hh (by decide), fun _ => ⟨fun _ => ?_, fun hh => absurd rfl hh⟩⟩⟩⟩⟩⟩)
  exact cro_0 (d := d) hX (k := 0) (by omega) hkd rfl x (dep + 1) K _ G J _ hJ (by simp only [len_app, List.length_cons, List.length_nil]; omega) (by omega) (fun J2 hJ2 hf2 => h J2 (by simp only [List.append_assoc] at hJ2 ⊢; exact hJ2) (hf.tr hf2))
theorem cro_c : ∀ k, k < 8 → (k = 3 ∧ clm 1 8 k = 3) ∨ (k ≠ 3 ∧ k = 7 ∧ clm 1 8 k = 7) ∨ (k ≠ 3 ∧ k ≠ 7 ∧ k = 2 ∧ clm 1 8 k = 2) ∨ (k ≠ 3 ∧ k ≠ 7 ∧ k ≠ 2 ∧ clm 1 8 k = 0) := by decide
theorem run_crosses {xs : KS} {d k kd : Nat} {num : Int} (hX : XLie xs) (hk : k < 8) (hkd : kd < 8) : RunOk xs (d + 10) 20 1 k num kd (croV num kd k) (croT kd k) := by
  have hL := lieT_le kd
  have hU := undT_le kd kd
  rcases cro_c k hk with ⟨a, e⟩ | ⟨a, b, e⟩ | ⟨a, b, c, e⟩ | ⟨a, b, c, e⟩
  · intro x dep K tr G I Q hC ht hd h
    have eV : croV num kd k x = w32 (-(w32 (lieV num kd (w32 (x + 1)) * 2))) := by unfold croV; rw [if_pos a]
    have eT : croT kd k = [41, 30, 10] ++ lieT kd := by unfold croT; rw [if_pos a]
    rw [eT] at ht h
    rw [eV] at h
    simp only [len_app, List.length_cons, List.length_nil] at ht
    refine t_Lies_run hX hC (by omega) (by omega) hk (by omega) e rfl rfl (fun J hJ hf => b_Lies_work_0 ⟨fun hh => absurd hh (by decide), fun _ => ⟨fun hh => absurd hh (by decide), fun _ => ⟨fun hh => absurd hh (by decide), fun _ => ⟨fun hh => absurd hh (by decide), fun _ => ⟨fun hh => absurd hh (by decide), fun _ => ⟨fun hh => absurd hh (by decide), fun _ => ⟨fun hh => absurd hh (by decide), fun _ => ⟨fun _ => ?_, fun hh => absurd rfl hh⟩⟩⟩⟩⟩⟩⟩⟩)
    exact cro_2 (d := d) hX (k := 2) (by omega) hkd rfl _ (dep + 1) K _ G J _ hJ (by simp only [len_app, List.length_cons, List.length_nil]; omega) (by omega) (fun J2 hJ2 hf2 => h J2 (by simp only [List.append_assoc] at hJ2 ⊢; exact hJ2) (hf.tr hf2))
  · intro x dep K tr G I Q hC ht hd h
    have eV : croV num kd k x = w32 (w32 (-(w32 (lieV num kd x * 2))) + undV num kd kd 2) := by unfold croV; rw [if_neg a, if_pos b]
    have eT : croT kd k = [80, 30, 10] ++ lieT kd ++ undT kd kd := by unfold croT; rw [if_neg a, if_pos b]
    rw [eT] at ht h
    rw [eV] at h
    simp only [len_app, List.length_cons, List.length_nil] at ht
    refine t_Lies_run hX hC (by omega) (by omega) hk (by omega) e rfl rfl (fun J hJ hf => b_Lies_work_0 ⟨fun hh => absurd hh (by decide), fun _ => ⟨fun hh => absurd hh (by decide), fun _ => ⟨fun hh => absurd hh (by decide), fun _ => ⟨fun hh => absurd hh (by decide), fun _ => ⟨fun hh => absurd hh (by decide), fun _ => ⟨fun hh => absurd hh (by decide), fun _ => ⟨fun hh => absurd hh (by decide), fun _ => ⟨fun hh => absurd hh (by decide), fun _ => ⟨fun hh => absurd hh (by decide), fun _ => ⟨fun hh => absurd hh (by decide), fun _ => ⟨fun hh => absurd hh (by decide), fun _ => ⟨fun _ => ?_, fun hh => absurd rfl hh⟩⟩⟩⟩⟩⟩⟩⟩⟩⟩⟩⟩)
    refine cro_2 (d := d) hX (k := 2) (by omega) hkd rfl _ (dep + 1) K _ G J _ hJ (by simp only [len_app, List.length_cons, List.length_nil]; omega) (by omega) (fun J2 hJ2 hf2 => ?_)
    rw [hJ2.2.2]
    exact run_undoes (d := d + 2) hX hkd hkd 2 (dep + 1) K _ G J2 _ hJ2 (by simp only [len_app, List.length_cons, List.length_nil]; omega) (by omega) (fun J3 hJ3 hf3 => h J3 (by simp only [List.append_assoc] at hJ3 ⊢; exact hJ3) ((hf.tr hf2).tr hf3))
  · exact (cro_2 (d := d + 2) hX hk hkd e).wk rfl (by omega) (by funext x; unfold croV; rw [if_neg a, if_neg b, if_pos c]) (by unfold croT; rw [if_neg a, if_neg b, if_pos c])
  · exact (cro_0 (d := d + 4) hX hk hkd e).wk rfl (by omega) (by funext x; unfold croV; rw [if_neg a, if_neg b, if_neg c]) (by unfold croT; rw [if_neg a, if_neg b, if_neg c])
theorem croT_le (kd k : Nat) : (croT kd k).length ≤ 9 := by
  have := lieT_le kd
  have := undT_le kd kd
  unfold croT; split
  · simp; omega
  · split
    · simp; omega
    · split <;> simp <;> omega
theorem tel_0 {xs : KS} {d k kd : Nat} {num : Int} (hX : XLie xs) (hk : k < 8) (hkd : kd < 8) (e : clm 3 8 k = 0) : RunOk xs (d + 12) 18 3 k num kd (fun x => w32 (croV num kd kd x - undV num kd kd 1)) ([2] ++ croT kd kd ++ undT kd kd) := by
  intro x dep K tr G I Q hC ht hd h
  have hL := croT_le kd kd
  have hU := undT_le kd kd
  simp only [len_app, List.length_cons, List.length_nil] at ht
  refine t_Lies_run hX hC (by omega) (by omega) hk (by omega) e rfl rfl (fun J hJ hf => b_Lies_work_0 ⟨fun hh => absurd hh (by decide), fun _ => ⟨fun _ => ?_, fun hh => absurd rfl hh⟩⟩)
  rw [hJ.2.2]
  refine run_crosses (d := d) hX hkd hkd x (dep + 1) K _ G J _ hJ (by simp only [len_app, List.length_cons, List.length_nil]; omega) (by omega) (fun J2 hJ2 hf2 => ?_)
  rw [hJ2.2.2]
  exact run_undoes (d := d + 4) hX hkd hkd 1 (dep + 1) K _ G J2 _ hJ2 (by simp only [len_app, List.length_cons, List.length_nil]; omega) (by omega) (fun J3 hJ3 hf3 => h J3 (by simp only [List.append_assoc] at hJ3 ⊢; exact hJ3) ((hf.tr hf2).tr hf3))
theorem tel_c : ∀ k, k < 8 → (k = 4 ∧ clm 3 8 k = 4) ∨ (k ≠ 4 ∧ k = 7 ∧ clm 3 8 k = 7) ∨ (k ≠ 4 ∧ k ≠ 7 ∧ clm 3 8 k = 0) := by decide
theorem run_tells {xs : KS} {d k kd : Nat} {num : Int} (hX : XLie xs) (hk : k < 8) (hkd : kd < 8) : RunOk xs (d + 14) 10 3 k num kd (telV num kd k) (telT kd k) := by
  have hL := croT_le kd kd
  have hU := undT_le kd kd
  rcases tel_c k hk with ⟨a, e⟩ | ⟨a, b, e⟩ | ⟨a, b, e⟩
  · intro x dep K tr G I Q hC ht hd h
    have eV : telV num kd k x = kixor (w32 (croV num kd kd x - undV num kd kd 1)) 5 := by unfold telV; simp only; rw [if_pos a]
    have eT : telT kd k = [50] ++ ([2] ++ croT kd kd ++ undT kd kd) := by unfold telT; rw [if_pos a]; simp only [List.append_assoc]
    rw [eT] at ht h
    rw [eV] at h
    simp only [len_app, List.length_cons, List.length_nil] at ht
    refine t_Lies_run hX hC (by omega) (by omega) hk (by omega) e rfl rfl (fun J hJ hf => b_Lies_work_0 ⟨fun hh => absurd hh (by decide), fun _ => ⟨fun hh => absurd hh (by decide), fun _ => ⟨fun hh => absurd hh (by decide), fun _ => ⟨fun hh => absurd hh (by decide), fun _ => ⟨fun hh => absurd hh (by decide), fun _ => ⟨fun hh => absurd hh (by decide), fun _ => ⟨fun hh => absurd hh (by decide), fun _ => ⟨fun hh => absurd hh (by decide), fun _ => ⟨fun _ => ?_, fun hh => absurd rfl hh⟩⟩⟩⟩⟩⟩⟩⟩⟩)
    exact tel_0 (d := d) hX (k := 1) (by omega) hkd rfl _ (dep + 1) K _ G J _ hJ (by simp only [len_app, List.length_cons, List.length_nil]; omega) (by omega) (fun J2 hJ2 hf2 => h J2 (by simp only [List.append_assoc] at hJ2 ⊢; exact hJ2) (hf.tr hf2))
  · intro x dep K tr G I Q hC ht hd h
    have eV : telV num kd k x = w32 (w32 (croV num kd kd x - undV num kd kd 1) - 1) := by unfold telV; simp only; rw [if_neg a, if_pos b]
    have eT : telT kd k = [81] ++ ([2] ++ croT kd kd ++ undT kd kd) := by unfold telT; rw [if_neg a, if_pos b]; simp only [List.append_assoc]
    rw [eT] at ht h
    rw [eV] at h
    simp only [len_app, List.length_cons, List.length_nil] at ht
    refine t_Lies_run hX hC (by omega) (by omega) hk (by omega) e rfl rfl (fun J hJ hf => b_Lies_work_0 ⟨fun hh => absurd hh (by decide), fun _ => ⟨fun hh => absurd hh (by decide), fun _ => ⟨fun hh => absurd hh (by decide), fun _ => ⟨fun hh => absurd hh (by decide), fun _ => ⟨fun hh => absurd hh (by decide), fun _ => ⟨fun hh => absurd hh (by decide), fun _ => ⟨fun hh => absurd hh (by decide), fun _ => ⟨fun hh => absurd hh (by decide), fun _ => ⟨fun hh => absurd hh (by decide), fun _ => ⟨fun hh => absurd hh (by decide), fun _ => ⟨fun hh => absurd hh (by decide), fun _ => ⟨fun hh => absurd hh (by decide), fun _ => ⟨fun _ => ?_, fun hh => absurd rfl hh⟩⟩⟩⟩⟩⟩⟩⟩⟩⟩⟩⟩⟩)
    exact tel_0 (d := d) hX (k := 2) (by omega) hkd rfl _ (dep + 1) K _ G J _ hJ (by simp only [len_app, List.length_cons, List.length_nil]; omega) (by omega) (fun J2 hJ2 hf2 => h J2 (by simp only [List.append_assoc] at hJ2 ⊢; exact hJ2) (hf.tr hf2))
  · exact (tel_0 (d := d + 2) hX hk hkd e).wk rfl (by omega) (by funext x; unfold telV; simp only; rw [if_neg a, if_neg b]) (by unfold telT; rw [if_neg a, if_neg b]; simp only [List.nil_append])
theorem telT_le (kd k : Nat) : (telT kd k).length ≤ 20 := by
  have := croT_le kd kd
  have := undT_le kd kd
  unfold telT
  simp only [len_app]
  split
  · simp; omega
  · split <;> simp <;> omega
/-- an act by call: its answer, the bodies that run -/
def actV (num : Int) (kd act : Nat) (x : Int) : Int := if act = 0 then lieV num kd x else if act = 1 then croV num kd kd x else if act = 2 then undV num kd kd x else telV num kd kd x
def actT (kd act : Nat) : List Int := if act = 0 then lieT kd else if act = 1 then croT kd kd else if act = 2 then undT kd kd else telT kd kd
theorem actT_le (kd act : Nat) : (actT kd act).length ≤ 20 := by
  have := lieT_le kd
  have := croT_le kd kd
  have := undT_le kd kd
  have := telT_le kd kd
  unfold actT; split
  · omega
  · split
    · omega
    · split <;> omega
def bgn (K : List Int) (b act x : Int) : Int × List Int := if 0 ≤ b ∧ b < K.length ∧ 0 ≤ act ∧ act < 4 then (actV b (K.getD b.toNat 0).toNat act.toNat x, actT (K.getD b.toNat 0).toNat act.toNat) else (0, [])
theorem t_Lies_begin {xs : KS} {d : Nat} {b act x : Int} {K tr : List Int} {G : KG} {I : KI} {Q : KQ} (hX : XLie xs) (hC : CLie K tr I) (hK : ∀ k, k < K.length → 0 ≤ K.getD k 0 ∧ K.getD k 0 < 8)
    (h : ∀ I' : KI, CLie K (bgn K b act x).2 I' → kfr 37 40 I I' → Q (bgn K b act x).1 G I') : kWP xs true (d + 15) 0 0 28 0 [(0, 12, 0, 37), (1, 0, 0, b), (2, 0, 0, act), (3, 0, 0, x)] [] G I Q := by
  obtain ⟨c1, c2, c3, c4, c5⟩ := hC
  refine b_Lies_begin_0 (fun J1 e1 => ?_)
  have g1 : ∀ a k, ¬ (a = 37 ∧ k = 3) → J1 a k = I a k := fun a k hk => by rw [e1, kst_n (by omega)]
  have f1 : kfr 37 40 I J1 := fun a k hk => g1 a k (by omega)
  have hJ1 : CLie K [] J1 := ⟨by rw [g1 _ _ (by omega)]; exact c1, c2, fun k hk => by rw [g1 _ _ (by omega)]; exact c3 k hk, by rw [e1, kst_s]; rfl, fun k hk => absurd hk (Nat.not_lt_zero _)⟩
  have no : ¬ (0 ≤ b ∧ b < K.length ∧ 0 ≤ act ∧ act < 4) → Q 0 G J1 := fun hn => by
    unfold bgn at h; rw [if_neg hn] at h; exact h J1 hJ1 f1
  rw [g1 37 1 (by omega), c1]
  refine ⟨fun h1 => no (by omega), fun h1 => ⟨fun h2 => no (by omega), fun h2 => ⟨fun h3 => no (by omega), fun h3 => ⟨fun h4 J2 e2 => ⟨by omega, fun J3 e3 => ?_⟩, fun h4 => no (by omega)⟩⟩⟩⟩
  unfold bgn at h
  rw [if_pos ⟨h1, h2, h3, h4⟩] at h
  obtain ⟨m, rfl⟩ : ∃ m : Nat, b = m := ⟨b.toNat, by omega⟩
  obtain ⟨a, rfl⟩ : ∃ a : Nat, act = a := ⟨act.toNat, by omega⟩
  have hk := hK m (by omega)
  simp only [Int.toNat_natCast] at h
  obtain ⟨kd, hkd⟩ : ∃ kd : Nat, K.getD m 0 = kd := ⟨(K.getD m 0).toNat, by omega⟩
  rw [hkd, Int.toNat_natCast] at h
  have g2 : J2 38 (m : Int) = (kd : Int) := by rw [e2, kst_n (by omega), g1 _ _ (by omega), c3 m (by omega), hkd]
  rw [g2] at e3
  have g3 : ∀ a k, ¬ (a = 37 ∧ (k = 4 ∨ k = 5)) → J3 a k = J1 a k := fun a k hk => by rw [e3, kst_n (by omega), e2, kst_n (by omega)]
  have f5 : J3 37 5 = (kd : Int) := by rw [e3, kst_s]
  have hC3 : CAct K [] (m : Int) (kd : Int) J3 := ⟨⟨by rw [g3 _ _ (by omega)]; exact hJ1.1, c2, fun k hk => by rw [g3 _ _ (by omega)]; exact hJ1.2.2.1 k hk, by rw [g3 _ _ (by omega)]; exact hJ1.2.2.2.1, fun k hk => absurd hk (Nat.not_lt_zero _)⟩, by rw [e3, kst_n (by omega), e2, kst_s], f5⟩
  have fin : ∀ J : KI, CAct K ([] ++ actT kd a) (m : Int) (kd : Int) J → lif J3 J → Q (actV (m : Int) kd a x) G J := fun J hJ hf => by
    refine h J hJ.1 (fun a k hk => ?_)
    rw [hf a k (by omega) (by omega), g3 a k (by omega), f1 a k (by omega)]
  have hT := actT_le kd a
  rw [f5]
  have hr : RunOk xs (d + 14) 10 a kd (m : Int) kd (actV (m : Int) kd a) (actT kd a) := by
    rcases (show a = 0 ∨ a = 1 ∨ a = 2 ∨ a = 3 by omega) with rfl | rfl | rfl | rfl
    · exact (run_lies (d := d + 10) hX (by omega)).wk rfl (by omega) rfl rfl
    · exact (run_crosses (d := d + 4) hX (by omega) (by omega)).wk rfl (by omega) rfl rfl
    · exact (run_undoes (d := d + 8) hX (by omega) (by omega)).wk rfl (by omega) rfl rfl
    · exact (run_tells (d := d) hX (by omega) (by omega)).wk rfl (by omega) rfl rfl
  exact hr x 0 K [] G J3 _ hC3 (by simp only [List.length_nil]; omega) (by omega) fin
