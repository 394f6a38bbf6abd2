/-! THE CODE RUN BY NUMBERS, till a place where it is cut -/
def kFs : List KF := [s_ldi, s_lda, s_ldl, s_sti, s_sta, s_stl, s_pushi, s_pushl, s_null, s_iinc, s_iadd, s_isub, s_imul, s_idiv, s_irem, s_iand, s_ior, s_ixor, s_ishl, s_ishr, s_iushr, s_ineg, s_land, s_lor, s_lshl, s_lcmp, s_i2l, s_l2i, s_i2b, s_i2s, s_dup, s_pop, s_dup_x1, s_dup2, s_if_eq, s_if_ne, s_if_lt, s_if_ge, s_if_gt, s_if_le, s_icmp_eq, s_icmp_ne, s_icmp_lt, s_icmp_ge, s_icmp_gt, s_icmp_le, s_goto, s_ifnonnull, s_tsw, s_lsw, s_iald, s_bald, s_lald, s_alen, s_iast, s_bast, s_last, s_aald, s_aast, s_geti, s_getr, s_gett, s_gets, s_puti, s_putz, s_putr, s_putt, s_new, s_newa, s_anewa, s_objinit, s_inv, s_invS, s_invSN, s_invI, s_invIN, s_copy, s_mmax, s_mmin, s_mabs, s_iret, s_zret, s_lret, s_vret, s_aret]
def kBad : KF := fun _ _ _ _ _ _ _ _ _ _ _ _ _ _ _ _ _ => False
def knF : List KF → Nat → KF
  | [], _ => kBad
  | x :: _, 0 => x
  | _ :: r, n + 1 => knF r n
def kAll2 : List KF → List KH → Prop
  | [], [] => True
  | f :: fs, h :: hs => KOk f h ∧ kAll2 fs hs
  | _, _ => False
theorem kAll2_at : ∀ {fs : List KF} {hs : List KH}, kAll2 fs hs → ∀ n, KOk (knF fs n) (knH hs n)
  | [], [], _, n => by unfold knF knH; exact fun _ _ _ _ _ _ _ _ _ _ _ _ _ _ _ _ _ _ _ _ _ _ _ _ h => by cases h
  | f :: fs, h :: hs, hk, 0 => by unfold knF knH; exact hk.1
  | f :: fs, h :: hs, hk, n + 1 => by unfold knF knH; exact kAll2_at hk.2 n
  | [], _ :: _, hk, _ => hk.elim
  | _ :: _, [], hk, _ => hk.elim
theorem kOps_ok : kAll2 kFs kHs := ⟨ok_ldi, ⟨ok_lda, ⟨ok_ldl, ⟨ok_sti, ⟨ok_sta, ⟨ok_stl, ⟨ok_pushi, ⟨ok_pushl, ⟨ok_null, ⟨ok_iinc, ⟨ok_iadd, ⟨ok_isub, ⟨ok_imul, ⟨ok_idiv, ⟨ok_irem, ⟨ok_iand, ⟨ok_ior, ⟨ok_ixor, ⟨ok_ishl, ⟨ok_ishr, ⟨ok_iushr, ⟨ok_ineg, ⟨ok_land, ⟨ok_lor, ⟨ok_lshl, ⟨ok_lcmp, ⟨ok_i2l, ⟨ok_l2i, ⟨ok_i2b, ⟨ok_i2s, ⟨ok_dup, ⟨ok_pop, ⟨ok_dup_x1, ⟨ok_dup2, ⟨ok_if_eq, ⟨ok_if_ne, ⟨ok_if_lt, ⟨ok_if_ge, ⟨ok_if_gt, ⟨ok_if_le, ⟨ok_icmp_eq, ⟨ok_icmp_ne, ⟨ok_icmp_lt, ⟨ok_icmp_ge, ⟨ok_icmp_gt, ⟨ok_icmp_le, ⟨ok_goto, ⟨ok_ifnonnull, ⟨ok_tsw, ⟨ok_lsw, ⟨ok_iald, ⟨ok_bald, ⟨ok_lald, ⟨ok_alen, ⟨ok_iast, ⟨ok_bast, ⟨ok_last, ⟨ok_aald, ⟨ok_aast, ⟨ok_geti, ⟨ok_getr, ⟨ok_gett, ⟨ok_gets, ⟨ok_puti, ⟨ok_putz, ⟨ok_putr, ⟨ok_putt, ⟨ok_new, ⟨ok_newa, ⟨ok_anewa, ⟨ok_objinit, ⟨ok_inv, ⟨ok_invS, ⟨ok_invSN, ⟨ok_invI, ⟨ok_invIN, ⟨ok_copy, ⟨ok_mmax, ⟨ok_mmin, ⟨ok_mabs, ⟨ok_iret, ⟨ok_zret, ⟨ok_lret, ⟨ok_vret, ⟨ok_aret, trivial⟩⟩⟩⟩⟩⟩⟩⟩⟩⟩⟩⟩⟩⟩⟩⟩⟩⟩⟩⟩⟩⟩⟩⟩⟩⟩⟩⟩⟩⟩⟩⟩⟩⟩⟩⟩⟩⟩⟩⟩⟩⟩⟩⟩⟩⟩⟩⟩⟩⟩⟩⟩⟩⟩⟩⟩⟩⟩⟩⟩⟩⟩⟩⟩⟩⟩⟩⟩⟩⟩⟩⟩⟩⟩⟩⟩⟩⟩⟩⟩⟩⟩⟩⟩⟩
def kfind (t : Nat) : List KE → List KE
  | [] => []
  | e :: r => bif Nat.beq e.1 t then e :: r else kfind t r
def klive (t : Nat) : List (Nat × List Nat) → Option (List Nat)
  | [] => none
  | s :: r => bif Nat.beq s.1 t then some s.2 else klive t r
def kpick : List Nat → KL → KL
  | [], _ => []
  | i :: r, L => match klk L i with
    | some v => (i, v) :: kpick r L
    | none => kpick r L
theorem kpick_sub : ∀ {is : List Nat} {L : KL}, ∀ q ∈ kpick is L, q ∈ L
  | [], L, q, h => by unfold kpick at h; exact absurd h List.not_mem_nil
  | i :: r, L, q, h => by
    unfold kpick at h
    split at h
    · rename_i v hv
      rcases List.mem_cons.mp h with rfl | h
      · exact klk_mem hv
      · exact kpick_sub q h
    · exact kpick_sub q h
def kCont (xs : KS) (lay : Bool) (dd j : Nat) (stops : List (Nat × List Nat)) (Q : KQ) (rec : List KE → KK) (s : List KE) : KK := match s with
  | [] => fun _ _ _ _ _ _ => False
  | e :: r => match klive e.1 stops with
    | some live => fun kc ks L st G I => kWP xs lay dd kc ks j e.1 (kpick live L) st G I Q
    | none => rec (e :: r)
def kN (xs : KS) (lay : Bool) (dd j : Nat) (code : List KE) (stops : List (Nat × List Nat)) (Q : KQ) : Nat → List KE → KK
  | 0, _ => fun _ _ _ _ _ _ => False
  | n + 1, s => match s with
    | [] => fun _ _ _ _ _ _ => False
    | e :: r => (knF kFs e.2.1) e.2.2.1 e.2.2.2.1 e.2.2.2.2.1 e.2.2.2.2.2.1 e.2.2.2.2.2.2.1 xs lay dd (kCont xs lay dd j stops Q (kN xs lay dd j code stops Q n) r) (fun t => kCont xs lay dd j stops Q (kN xs lay dd j code stops Q n) (kfind t code)) Q
theorem kchkL_suf {j : Nat} : ∀ {p s : List KE}, kchkL j (p ++ s) = true → kchkL j s = true
  | [], s, h => h
  | e :: p, s, h => by
    unfold kchkL at h
    rw [List.cons_append] at h
    simp only [Bool.and_eq_true] at h
    exact kchkL_suf h.2
theorem kfind_suf : ∀ {t : Nat} {code : List KE}, ∃ p, code = p ++ kfind t code
  | t, [] => ⟨[], rfl⟩
  | t, e :: r => by
    unfold kfind
    cases hb : Nat.beq e.1 t with
    | true => exact ⟨[], rfl⟩
    | false =>
      obtain ⟨p, hp⟩ := kfind_suf (t := t) (code := r)
      exact ⟨e :: p, by rw [List.cons_append]; simp only [cond_false]; rw [← hp]⟩
theorem kfind_hd : ∀ {t : Nat} {code : List KE} {e : KE} {r : List KE}, kfind t code = e :: r → e.1 = t
  | t, [], e, r, h => by unfold kfind at h; cases h
  | t, x :: y, e, r, h => by
    unfold kfind at h
    cases hb : Nat.beq x.1 t with
    | true =>
      rw [hb] at h
      simp only [cond_true] at h
      injection h with h1 h2
      subst h1
      exact kbe hb
    | false =>
      rw [hb] at h
      exact kfind_hd h
theorem kN_ok {xs : KS} {lay : Bool} {dd j : Nat} {code : List KE} {stops : List (Nat × List Nat)} {Q : KQ} (hc : kchkL j code = true) : ∀ (n : Nat) (e : KE) (r : List KE), kchkL j (e :: r) = true → ∀ {kc ks : Nat} {L : KL} {st : List KV} {G : KG} {I : KI}, kN xs lay dd j code stops Q n (e :: r) kc ks L st G I → kWP xs lay dd kc ks j e.1 L st G I Q := by
  intro n
  induction n with
  | zero => intro e r _ kc ks L st G I h; exact h.elim
  | succ n ih =>
    intro e r hs kc ks L st G I h
    have cont : ∀ (s : List KE), kchkL j s = true → ∀ (np : Nat), (∀ e2 r2, s = e2 :: r2 → e2.1 = np) → ∀ {kc ks : Nat} {L : KL} {st : List KV} {G : KG} {I : KI}, kCont xs lay dd j stops Q (kN xs lay dd j code stops Q n) s kc ks L st G I → kWP xs lay dd kc ks j np L st G I Q := by
      intro s hs np hnp kc ks L st G I hk
      cases s with
      | nil => exact hk.elim
      | cons e2 r2 =>
        have := hnp e2 r2 rfl
        subst this
        unfold kCont at hk
        simp only at hk
        cases hl : klive e2.1 stops with
        | some live => rw [hl] at hk; exact kWP.sub (fun q hq => kpick_sub q hq) hk
        | none => rw [hl] at hk; exact ih e2 r2 hs hk
    unfold kchkL at hs
    rw [Bool.and_eq_true] at hs
    obtain ⟨h1, h2⟩ := hs
    unfold kN at h
    unfold kchk at h1
    split at h1
    · rename_i i len hd
      refine kAll2_at kOps_ok e.2.1 xs lay dd kc ks j e.1 _ _ _ _ _ _ _ i len _ _ Q L st G I hd h1 h (fun kc ks L st G I hk => ?_) (fun t kc ks L st G I hk => ?_)
      · refine cont r h2 _ (fun e2 r2 he => ?_) hk
        rw [he]
      · obtain ⟨p, hp⟩ := kfind_suf (t := t) (code := code)
        refine cont (kfind t code) (kchkL_suf (p := p) (by rw [← hp]; exact hc)) t (fun e2 r2 he => kfind_hd he) hk
    · cases h1
/-- from any place of a method on, by numbers -/
theorem kRun {xs : KS} {lay : Bool} {dd j : Nat} {code : List KE} (hc : kchkL j code = true) (stops : List (Nat × List Nat)) (n pc : Nat) {Q : KQ} {kc ks : Nat} {L : KL} {st : List KV} {G : KG} {I : KI} (hne : (match kfind pc code with | [] => false | _ :: _ => true) = true)
    (h : kN xs lay dd j code stops Q n (kfind pc code) kc ks L st G I) : kWP xs lay dd kc ks j pc L st G I Q := by
  obtain ⟨p, hp⟩ := kfind_suf (t := pc) (code := code)
  cases he : kfind pc code with
  | nil => rw [he] at hne; cases hne
  | cons e r =>
    have h1 := kfind_hd he
    subst h1
    rw [he] at h
    exact kN_ok hc n e r (kchkL_suf (p := p) (by rw [← he, ← hp]; exact hc)) h
