/-! COUNTING CLASSES -/
theorem len_inj {α β : Type} : ∀ (A : List α) (B : List β) (m : α → β), A.Nodup → (∀ a ∈ A, m a ∈ B) → (∀ a ∈ A, ∀ b ∈ A, m a = m b → a = b) → A.length ≤ B.length
  | [], B, m, _, _, _ => Nat.zero_le _
  | a :: A, B, m, hA, hm, hi => by
    obtain ⟨s, t, hst⟩ := List.append_of_mem (hm a List.mem_cons_self)
    have hA := List.nodup_cons.mp hA
    have ih := len_inj A (s ++ t) m hA.2 (fun b hb => by
      have h1 := hm b (List.mem_cons_of_mem _ hb)
      rw [hst, List.mem_append, List.mem_cons] at h1
      rw [List.mem_append]
      rcases h1 with h1 | h1 | h1
      · exact Or.inl h1
      · exfalso
        have := hi b (List.mem_cons_of_mem _ hb) a List.mem_cons_self h1
        rw [this] at hb
        exact hA.1 hb
      · exact Or.inr h1) (fun x hx y hy => hi x (List.mem_cons_of_mem _ hx) y (List.mem_cons_of_mem _ hy))
    rw [hst]
    simp only [List.length_append, List.length_cons] at ih ⊢
    omega
noncomputable def cdc (p : Prop) : Bool := @decide p (Classical.propDecidable p)
theorem cdc_iff {p : Prop} : cdc p = true ↔ p := by
  unfold cdc
  exact @decide_eq_true_iff p (Classical.propDecidable p)
theorem cdc_f {p : Prop} : cdc p = false ↔ ¬ p := by
  refine ⟨fun h hp => ?_, fun h => ?_⟩
  · rw [cdc_iff.mpr hp] at h; cases h
  · cases hc : cdc p with
    | false => rfl
    | true => exact absurd (cdc_iff.mp hc) h
/-- the least of its class -/
def mnl (R : Nat → Nat → Prop) (x : Nat) : Prop := ∀ y, y < x → ¬ R y x
noncomputable def cnt (R : Nat → Nat → Prop) (N : Nat) : Nat := (List.range N).countP (fun x => cdc (mnl R x))
theorem cnt_s (R : Nat → Nat → Prop) (N : Nat) : cnt R (N + 1) = cnt R N + (if cdc (mnl R N) then 1 else 0) := by
  unfold cnt
  rw [List.range_succ, List.countP_append, List.countP_singleton]
def Eqv (R : Nat → Nat → Prop) (N : Nat) : Prop := (∀ x, x < N → R x x) ∧ (∀ x y, x < N → y < N → R x y → R y x) ∧ ∀ x y z, x < N → y < N → z < N → R x y → R y z → R x z
noncomputable def lst (R : Nat → Nat → Prop) (N x : Nat) : Nat := fnd (fun y => cdc (R y x)) N
theorem lst_ok {R : Nat → Nat → Prop} {N x : Nat} (hR : Eqv R N) (hx : x < N) : lst R N x < N ∧ R (lst R N x) x ∧ mnl R (lst R N x) := by
  have h1 : lst R N x < N := fnd_lt hx (cdc_iff.mpr (hR.1 x hx))
  have h2 : R (lst R N x) x := cdc_iff.mp (fnd_spec h1)
  refine ⟨h1, h2, fun y hy hr => ?_⟩
  exact cdc_f.mp (fnd_min hy) (hR.2.2 _ _ _ (by omega) h1 hx hr h2)
theorem mem_reps {R : Nat → Nat → Prop} {N x : Nat} : x ∈ (List.range N).filter (fun x => cdc (mnl R x)) ↔ x < N ∧ mnl R x := by
  rw [List.mem_filter, List.mem_range, cdc_iff]
theorem nd_filter {α : Type} {p : α → Bool} {l : List α} (h : l.Nodup) : (l.filter p).Nodup := List.Pairwise.sublist List.filter_sublist h
theorem mnl_eq {R : Nat → Nat → Prop} {N x y : Nat} (hR : Eqv R N) (hx : x < N) (hy : y < N) (mx : mnl R x) (my : mnl R y) (h : R x y) : x = y := by
  rcases Nat.lt_trichotomy x y with g | g | g
  · exact absurd h (my x g)
  · exact g
  · exact absurd (hR.2.1 _ _ hx hy h) (mx y g)
theorem cnt_le {R S : Nat → Nat → Prop} {N M : Nat} (f : Nat → Nat) (hR : Eqv R N) (hS : Eqv S M) (hf : ∀ x, x < N → f x < M) (h : ∀ x y, x < N → y < N → S (f x) (f y) → R x y) : cnt R N ≤ cnt S M := by
  unfold cnt
  rw [List.countP_eq_length_filter, List.countP_eq_length_filter]
  refine len_inj _ _ (fun x => lst S M (f x)) (nd_filter List.nodup_range) (fun a ha => ?_) (fun a ha b hb e => ?_)
  · have ha := mem_reps.mp ha
    have := lst_ok hS (hf a ha.1)
    exact mem_reps.mpr ⟨this.1, this.2.2⟩
  · have ha := mem_reps.mp ha
    have hb := mem_reps.mp hb
    have h1 := lst_ok hS (hf a ha.1)
    have h2 := lst_ok hS (hf b hb.1)
    rw [← e] at h2
    have := hS.2.2 _ _ _ (hf a ha.1) h1.1 (hf b hb.1) (hS.2.1 _ _ h1.1 (hf a ha.1) h1.2.1) h2.2.1
    exact mnl_eq hR ha.1 hb.1 ha.2 hb.2 (h a b ha.1 hb.1 this)
theorem cnt_cg {R S : Nat → Nat → Prop} {N : Nat} (h : ∀ x y, x < N → y < N → (R x y ↔ S x y)) : cnt R N = cnt S N := by
  unfold cnt
  refine List.countP_congr (fun x hx => ?_)
  have hx := List.mem_range.mp hx
  rw [cdc_iff, cdc_iff]
  exact ⟨fun g y hy hr => g y hy ((h _ _ (by omega) hx).mpr hr), fun g y hy hr => g y hy ((h _ _ (by omega) hx).mp hr)⟩
/-! WALKS of a map that is one to one -/
def itr (f : Nat → Nat) : Nat → Nat → Nat
  | 0, x => x
  | k + 1, x => f (itr f k x)
theorem itr_add (f : Nat → Nat) (b x : Nat) : ∀ a, itr f (a + b) x = itr f a (itr f b x)
  | 0 => by rw [Nat.zero_add]; rfl
  | a + 1 => by
    rw [show a + 1 + b = (a + b) + 1 by omega]
    show f (itr f (a + b) x) = f (itr f a (itr f b x))
    rw [itr_add f b x a]
/-- one to one below N -/
def Inj (f : Nat → Nat) (N : Nat) : Prop := (∀ x, x < N → f x < N) ∧ ∀ x y, x < N → y < N → f x = f y → x = y
theorem itr_lt {f : Nat → Nat} {N x : Nat} (h : Inj f N) (hx : x < N) : ∀ k, itr f k x < N
  | 0 => hx
  | k + 1 => h.1 _ (itr_lt h hx k)
theorem itr_inj {f : Nat → Nat} {N x y : Nat} (h : Inj f N) (hx : x < N) (hy : y < N) : ∀ k, itr f k x = itr f k y → x = y
  | 0, e => e
  | k + 1, e => itr_inj h hx hy k (h.2 _ _ (itr_lt h hx k) (itr_lt h hy k) e)
def per (f : Nat → Nat) (N x : Nat) : Nat := fnd (fun i => decide (itr f (i + 1) x = x)) N + 1
theorem per_ex {f : Nat → Nat} {N x : Nat} (h : Inj f N) (hx : x < N) : ∃ i, i < N ∧ itr f (i + 1) x = x := by
  refine Classical.byContradiction (fun hn => ?_)
  have hn : ∀ i, i < N → itr f (i + 1) x ≠ x := fun i hi e => hn ⟨i, hi, e⟩
  have hnd : ((List.range (N + 1)).map (fun k => itr f k x)).Nodup := by
    refine nodup_map List.nodup_range (fun a ha b hb e => ?_)
    have ha := List.mem_range.mp ha
    have hb := List.mem_range.mp hb
    have key : ∀ a b, a < b → b < N + 1 → itr f a x ≠ itr f b x := fun a b hab hb e => by
      rw [show b = a + (b - a) by omega, itr_add] at e
      have := itr_inj h hx (itr_lt h hx _) a e
      exact hn (b - a - 1) (by omega) (by rw [show b - a - 1 + 1 = b - a by omega]; exact this.symm)
    rcases Nat.lt_trichotomy a b with g | g | g
    · exact absurd e (key a b g hb)
    · exact g
    · exact absurd e.symm (key b a g ha)
  have := nd_le N _ hnd (fun y hy => by
    obtain ⟨k, _, rfl⟩ := List.mem_map.mp hy
    exact itr_lt h hx k)
  simp at this
  omega
theorem per_ok {f : Nat → Nat} {N x : Nat} (h : Inj f N) (hx : x < N) : 0 < per f N x ∧ per f N x ≤ N ∧ itr f (per f N x) x = x ∧ ∀ i, 0 < i → i < per f N x → itr f i x ≠ x := by
  obtain ⟨i, hi, e⟩ := per_ex h hx
  have h1 := fnd_lt (f := fun i => decide (itr f (i + 1) x = x)) hi (decide_eq_true e)
  have h2 := of_decide_eq_true (fnd_spec h1)
  unfold per
  refine ⟨by omega, by omega, h2, fun i h3 h4 e2 => ?_⟩
  have := fnd_min (f := fun i => decide (itr f (i + 1) x = x)) (n := N) (j := i - 1) (by omega)
  rw [show i - 1 + 1 = i by omega, e2] at this
  simp at this
theorem per_nd {f : Nat → Nat} {N x : Nat} (h : Inj f N) (hx : x < N) {i j : Nat} (hij : i < j) (hj : j < per f N x) : itr f i x ≠ itr f j x := fun e => by
  rw [show j = i + (j - i) by omega, itr_add] at e
  have := itr_inj h hx (itr_lt h hx _) i e
  exact (per_ok h hx).2.2.2 (j - i) (by omega) (by omega) this.symm
theorem itr_mul {f : Nat → Nat} {x p : Nat} (h : itr f p x = x) : ∀ q, itr f (q * p) x = x
  | 0 => by rw [Nat.zero_mul]; rfl
  | q + 1 => by rw [Nat.succ_mul, itr_add, h, itr_mul h q]
/-- what a walk comes by -/
def orb (f : Nat → Nat) (x y : Nat) : Prop := ∃ k, itr f k x = y
theorem orb_p {f : Nat → Nat} {N x y : Nat} (h : Inj f N) (hx : x < N) : orb f x y ↔ ∃ i, i < per f N x ∧ itr f i x = y := by
  obtain ⟨p0, _, p2, _⟩ := per_ok h hx
  constructor
  · rintro ⟨k, e⟩
    refine ⟨k % per f N x, Nat.mod_lt _ p0, ?_⟩
    have hk := Nat.div_add_mod k (per f N x)
    rw [Nat.mul_comm] at hk
    rw [← e]
    conv => rhs; rw [← hk, Nat.add_comm, itr_add, itr_mul p2]
  · rintro ⟨i, _, e⟩; exact ⟨i, e⟩
theorem orb_eqv {f : Nat → Nat} {N : Nat} (h : Inj f N) : Eqv (orb f) N := by
  refine ⟨fun x _ => ⟨0, rfl⟩, fun x y hx hy hr => ?_, fun x y z _ _ _ hr hs => ?_⟩
  · obtain ⟨i, hi, e⟩ := (orb_p h hx).mp hr
    refine ⟨per f N x - i, ?_⟩
    rw [← e, ← itr_add, show per f N x - i + i = per f N x by omega]
    exact (per_ok h hx).2.2.1
  · obtain ⟨a, ea⟩ := hr
    obtain ⟨b, eb⟩ := hs
    exact ⟨b + a, by rw [itr_add, ea, eb]⟩
/-- bits of what a walk comes by in k steps -/
def orm (f : Nat → Nat) (g x : Nat) : Nat → Nat
  | 0 => g
  | k + 1 => orm f g x k ||| 2 ^ (itr f k x)
theorem bit_or {a b y : Nat} : (a ||| 2 ^ b).testBit y = true ↔ a.testBit y = true ∨ b = y := by
  rw [Nat.testBit_or, Bool.or_eq_true, Nat.testBit_two_pow, decide_eq_true_eq]
theorem orm_b (f : Nat → Nat) (g x y : Nat) : ∀ k, (orm f g x k).testBit y = true ↔ g.testBit y = true ∨ ∃ i, i < k ∧ itr f i x = y
  | 0 => ⟨fun h => Or.inl h, fun h => h.elim id (fun ⟨i, hi, _⟩ => absurd hi (Nat.not_lt_zero i))⟩
  | k + 1 => by
    show (orm f g x k ||| 2 ^ (itr f k x)).testBit y = true ↔ _
    rw [bit_or, orm_b f g x y k]
    constructor
    · rintro ((h | ⟨i, hi, e⟩) | h)
      · exact Or.inl h
      · exact Or.inr ⟨i, by omega, e⟩
      · exact Or.inr ⟨k, by omega, h⟩
    · rintro (h | ⟨i, hi, e⟩)
      · exact Or.inl (Or.inl h)
      · by_cases hik : i = k
        · subst hik; exact Or.inr e
        · exact Or.inl (Or.inr ⟨i, by omega, e⟩)
theorem orm_p {f : Nat → Nat} {N g x y : Nat} (h : Inj f N) (hx : x < N) : (orm f g x (per f N x)).testBit y = true ↔ g.testBit y = true ∨ orb f x y := by
  rw [orm_b, orb_p h hx]
theorem orm_lt {f : Nat → Nat} {N g x : Nat} (h : Inj f N) (hx : x < N) (hg : g < 2 ^ N) : ∀ k, orm f g x k < 2 ^ N
  | 0 => hg
  | k + 1 => Nat.or_lt_two_pow (orm_lt h hx hg k) (Nat.pow_lt_pow_right (by omega) (itr_lt h hx k))
