/-! THE CODE RUN BY NUMBERS, till a place where it is cut -/
def kOps : List (KF × KH) := [(s_ldi, c_ldi), (s_lda, c_lda), (s_ldl, c_ldl), (s_sti, c_sti), (s_sta, c_sta), (s_stl, c_stl), (s_pushi, c_pushi), (s_pushl, c_pushl), (s_null, c_null), (s_iinc, c_iinc), (s_iadd, c_iadd), (s_isub, c_isub), (s_imul, c_imul), (s_idiv, c_idiv), (s_irem, c_irem), (s_iand, c_iand), (s_ior, c_ior), (s_ixor, c_ixor), (s_ishl, c_ishl), (s_ishr, c_ishr), (s_iushr, c_iushr), (s_ineg, c_ineg), (s_land, c_land), (s_lor, c_lor), (s_lshl, c_lshl), (s_lcmp, c_lcmp), (s_i2l, c_i2l), (s_l2i, c_l2i), (s_i2b, c_i2b), (s_i2s, c_i2s), (s_dup, c_dup), (s_pop, c_pop), (s_dup_x1, c_dup_x1), (s_dup2, c_dup2), (s_if_eq, c_if_eq), (s_if_ne, c_if_ne), (s_if_lt, c_if_lt), (s_if_ge, c_if_ge), (s_if_gt, c_if_gt), (s_if_le, c_if_le), (s_icmp_eq, c_icmp_eq), (s_icmp_ne, c_icmp_ne), (s_icmp_lt, c_icmp_lt), (s_icmp_ge, c_icmp_ge), (s_icmp_gt, c_icmp_gt), (s_icmp_le, c_icmp_le), (s_goto, c_goto), (s_ifnonnull, c_ifnonnull), (s_tsw, c_tsw), (s_lsw, c_lsw), (s_iald, c_iald), (s_bald, c_bald), (s_lald, c_lald), (s_alen, c_alen), (s_iast, c_iast), (s_bast, c_bast), (s_last, c_last), (s_aald, c_aald), (s_aast, c_aast), (s_geti, c_geti), (s_getr, c_getr), (s_gett, c_gett), (s_gets, c_gets), (s_puti, c_puti), (s_putz, c_putz), (s_putr, c_putr), (s_putt, c_putt), (s_new, c_new), (s_newa, c_newa), (s_anewa, c_anewa), (s_objinit, c_objinit), (s_inv, c_inv), (s_invS, c_invS), (s_invSN, c_invSN), (s_invI, c_invI), (s_invIN, c_invIN), (s_copy, c_copy), (s_mmax, c_mmax), (s_mmin, c_mmin), (s_mabs, c_mabs), (s_iret, c_iret), (s_zret, c_zret), (s_lret, c_lret), (s_vret, c_vret), (s_aret, c_aret)]
theorem kOps_ok : ∀ q ∈ kOps, KOk q.1 q.2 := (List.forall_mem_cons.mpr ⟨ok_ldi, (List.forall_mem_cons.mpr ⟨ok_lda, (List.forall_mem_cons.mpr ⟨ok_ldl, (List.forall_mem_cons.mpr ⟨ok_sti, (List.forall_mem_cons.mpr ⟨ok_sta, (List.forall_mem_cons.mpr ⟨ok_stl, (List.forall_mem_cons.mpr ⟨ok_pushi, (List.forall_mem_cons.mpr ⟨ok_pushl, (List.forall_mem_cons.mpr ⟨ok_null, (List.forall_mem_cons.mpr ⟨ok_iinc, (List.forall_mem_cons.mpr ⟨ok_iadd, (List.forall_mem_cons.mpr ⟨ok_isub, (List.forall_mem_cons.mpr ⟨ok_imul, (List.forall_mem_cons.mpr ⟨ok_idiv, (List.forall_mem_cons.mpr ⟨ok_irem, (List.forall_mem_cons.mpr ⟨ok_iand, (List.forall_mem_cons.mpr ⟨ok_ior, (List.forall_mem_cons.mpr ⟨ok_ixor, (List.forall_mem_cons.mpr ⟨ok_ishl, (List.forall_mem_cons.mpr ⟨ok_ishr, (List.forall_mem_cons.mpr ⟨ok_iushr, (List.forall_mem_cons.mpr ⟨ok_ineg, (List.forall_mem_cons.mpr ⟨ok_land, (List.forall_mem_cons.mpr ⟨ok_lor, (List.forall_mem_cons.mpr ⟨ok_lshl, (List.forall_mem_cons.mpr ⟨ok_lcmp, (List.forall_mem_cons.mpr ⟨ok_i2l, (List.forall_mem_cons.mpr ⟨ok_l2i, (List.forall_mem_cons.mpr ⟨ok_i2b, (List.forall_mem_cons.mpr ⟨ok_i2s, (List.forall_mem_cons.mpr ⟨ok_dup, (List.forall_mem_cons.mpr ⟨ok_pop, (List.forall_mem_cons.mpr ⟨ok_dup_x1, (List.forall_mem_cons.mpr ⟨ok_dup2, (List.forall_mem_cons.mpr ⟨ok_if_eq, (List.forall_mem_cons.mpr ⟨ok_if_ne, (List.forall_mem_cons.mpr ⟨ok_if_lt, (List.forall_mem_cons.mpr ⟨ok_if_ge, (List.forall_mem_cons.mpr ⟨ok_if_gt, (List.forall_mem_cons.mpr ⟨ok_if_le, (List.forall_mem_cons.mpr ⟨ok_icmp_eq, (List.forall_mem_cons.mpr ⟨ok_icmp_ne, (List.forall_mem_cons.mpr ⟨ok_icmp_lt, (List.forall_mem_cons.mpr ⟨ok_icmp_ge, (List.forall_mem_cons.mpr ⟨ok_icmp_gt, (List.forall_mem_cons.mpr ⟨ok_icmp_le, (List.forall_mem_cons.mpr ⟨ok_goto, (List.forall_mem_cons.mpr ⟨ok_ifnonnull, (List.forall_mem_cons.mpr ⟨ok_tsw, (List.forall_mem_cons.mpr ⟨ok_lsw, (List.forall_mem_cons.mpr ⟨ok_iald, (List.forall_mem_cons.mpr ⟨ok_bald, (List.forall_mem_cons.mpr ⟨ok_lald, (List.forall_mem_cons.mpr ⟨ok_alen, (List.forall_mem_cons.mpr ⟨ok_iast, (List.forall_mem_cons.mpr ⟨ok_bast, (List.forall_mem_cons.mpr ⟨ok_last, (List.forall_mem_cons.mpr ⟨ok_aald, (List.forall_mem_cons.mpr ⟨ok_aast, (List.forall_mem_cons.mpr ⟨ok_geti, (List.forall_mem_cons.mpr ⟨ok_getr, (List.forall_mem_cons.mpr ⟨ok_gett, (List.forall_mem_cons.mpr ⟨ok_gets, (List.forall_mem_cons.mpr ⟨ok_puti, (List.forall_mem_cons.mpr ⟨ok_putz, (List.forall_mem_cons.mpr ⟨ok_putr, (List.forall_mem_cons.mpr ⟨ok_putt, (List.forall_mem_cons.mpr ⟨ok_new, (List.forall_mem_cons.mpr ⟨ok_newa, (List.forall_mem_cons.mpr ⟨ok_anewa, (List.forall_mem_cons.mpr ⟨ok_objinit, (List.forall_mem_cons.mpr ⟨ok_inv, (List.forall_mem_cons.mpr ⟨ok_invS, (List.forall_mem_cons.mpr ⟨ok_invSN, (List.forall_mem_cons.mpr ⟨ok_invI, (List.forall_mem_cons.mpr ⟨ok_invIN, (List.forall_mem_cons.mpr ⟨ok_copy, (List.forall_mem_cons.mpr ⟨ok_mmax, (List.forall_mem_cons.mpr ⟨ok_mmin, (List.forall_mem_cons.mpr ⟨ok_mabs, (List.forall_mem_cons.mpr ⟨ok_iret, (List.forall_mem_cons.mpr ⟨ok_zret, (List.forall_mem_cons.mpr ⟨ok_lret, (List.forall_mem_cons.mpr ⟨ok_vret, (List.forall_mem_cons.mpr ⟨ok_aret, (fun _ h => absurd h List.not_mem_nil)⟩)⟩)⟩)⟩)⟩)⟩)⟩)⟩)⟩)⟩)⟩)⟩)⟩)⟩)⟩)⟩)⟩)⟩)⟩)⟩)⟩)⟩)⟩)⟩)⟩)⟩)⟩)⟩)⟩)⟩)⟩)⟩)⟩)⟩)⟩)⟩)⟩)⟩)⟩)⟩)⟩)⟩)⟩)⟩)⟩)⟩)⟩)⟩)⟩)⟩)⟩)⟩)⟩)⟩)⟩)⟩)⟩)⟩)⟩)⟩)⟩)⟩)⟩)⟩)⟩)⟩)⟩)⟩)⟩)⟩)⟩)⟩)⟩)⟩)⟩)⟩)⟩)⟩)⟩)⟩)⟩)⟩)⟩)⟩)⟩)
def kBad : KF × KH := (fun _ _ _ _ _ _ _ _ _ _ _ _ _ _ _ _ _ => False, fun _ _ _ _ _ _ _ _ _ _ _ => false)
def knth : List (KF × KH) → Nat → KF × KH
  | [], _ => kBad
  | x :: _, 0 => x
  | _ :: r, n + 1 => knth r n
theorem kBad_ok : KOk kBad.1 kBad.2 := fun _ _ _ _ _ _ _ _ _ _ _ _ _ _ _ _ _ _ _ _ _ _ _ _ h => by cases h
theorem knth_ok : ∀ {l : List (KF × KH)}, (∀ q ∈ l, KOk q.1 q.2) → ∀ n, KOk (knth l n).1 (knth l n).2
  | [], _, n => by unfold knth; exact kBad_ok
  | x :: r, h, 0 => by unfold knth; exact h x List.mem_cons_self
  | x :: r, h, n + 1 => by unfold knth; exact knth_ok (fun q hq => h q (List.mem_cons_of_mem _ hq)) n
def kchk (j : Nat) (e : KE) (np : Nat) : Bool := match decode (kMb j) e.1 with
  | .ok (i, len) => (knth kOps e.2.1).2 j e.2.2.1 e.2.2.2.1 e.2.2.2.2.1 e.2.2.2.2.2.1 e.2.2.2.2.2.2.1 e.2.2.2.2.2.2.2 e.1 np i len
  | .error _ => false
def kchkL (j : Nat) : List KE → Bool
  | [] => true
  | e :: r => kchk j e (match r with | [] => 0 | e2 :: _ => e2.1) && kchkL j r
def kfind (t : Nat) : List KE → List KE
  | [] => []
  | e :: r => bif Nat.beq e.1 t then e :: r else kfind t r
def klive (t : Nat) : List (Nat × List Nat) → Option (List Nat)
  | [] => none
  | s :: r => bif Nat.beq s.1 t then some s.2 else klive t r
def kpick : List Nat → KL → KL
  | [], _ => []
  | i :: r, L => match klk L i with
    | some v => (i, v) :: kpick r L
    | none => kpick r L
theorem kpick_sub : ∀ {is : List Nat} {L : KL}, ∀ q ∈ kpick is L, q ∈ L
  | [], L, q, h => by unfold kpick at h; exact absurd h List.not_mem_nil
  | i :: r, L, q, h => by
    unfold kpick at h
    split at h
    · rename_i v hv
      rcases List.mem_cons.mp h with rfl | h
      · exact klk_mem hv
      · exact kpick_sub q h
    · exact kpick_sub q h
def kCont (xs : KS) (lay : Bool) (dd j : Nat) (stops : List (Nat × List Nat)) (Q : KQ) (rec : List KE → KK) (s : List KE) : KK := match s with
  | [] => fun _ _ _ _ _ _ => False
  | e :: r => match klive e.1 stops with
    | some live => fun kc ks L st G I => kWP xs lay dd kc ks j e.1 (kpick live L) st G I Q
    | none => rec (e :: r)
def kN (xs : KS) (lay : Bool) (dd j : Nat) (code : List KE) (stops : List (Nat × List Nat)) (Q : KQ) : Nat → List KE → KK
  | 0, _ => fun _ _ _ _ _ _ => False
  | n + 1, s => match s with
    | [] => fun _ _ _ _ _ _ => False
    | e :: r => (knth kOps e.2.1).1 e.2.2.1 e.2.2.2.1 e.2.2.2.2.1 e.2.2.2.2.2.1 e.2.2.2.2.2.2.1 xs lay dd (kCont xs lay dd j stops Q (kN xs lay dd j code stops Q n) r) (fun t => kCont xs lay dd j stops Q (kN xs lay dd j code stops Q n) (kfind t code)) Q
theorem kchkL_suf {j : Nat} : ∀ {p s : List KE}, kchkL j (p ++ s) = true → kchkL j s = true
  | [], s, h => h
  | e :: p, s, h => by
    unfold kchkL at h
    rw [List.cons_append] at h
    simp only [Bool.and_eq_true] at h
    exact kchkL_suf h.2
theorem kfind_suf : ∀ {t : Nat} {code : List KE}, ∃ p, code = p ++ kfind t code
  | t, [] => ⟨[], rfl⟩
  | t, e :: r => by
    unfold kfind
    cases hb : Nat.beq e.1 t with
    | true => exact ⟨[], rfl⟩
    | false =>
      obtain ⟨p, hp⟩ := kfind_suf (t := t) (code := r)
      exact ⟨e :: p, by rw [List.cons_append]; simp only [cond_false]; rw [← hp]⟩
theorem kfind_hd : ∀ {t : Nat} {code : List KE} {e : KE} {r : List KE}, kfind t code = e :: r → e.1 = t
  | t, [], e, r, h => by unfold kfind at h; cases h
  | t, x :: y, e, r, h => by
    unfold kfind at h
    cases hb : Nat.beq x.1 t with
    | true =>
      rw [hb] at h
      simp only [cond_true] at h
      injection h with h1 h2
      subst h1
      exact kbe hb
    | false =>
      rw [hb] at h
      exact kfind_hd h
theorem kN_ok {xs : KS} {lay : Bool} {dd j : Nat} {code : List KE} {stops : List (Nat × List Nat)} {Q : KQ} (hc : kchkL j code = true) : ∀ (n : Nat) (e : KE) (r : List KE), kchkL j (e :: r) = true → ∀ {kc ks : Nat} {L : KL} {st : List KV} {G : KG} {I : KI}, kN xs lay dd j code stops Q n (e :: r) kc ks L st G I → kWP xs lay dd kc ks j e.1 L st G I Q := by
  intro n
  induction n with
  | zero => intro e r _ kc ks L st G I h; exact h.elim
  | succ n ih =>
    intro e r hs kc ks L st G I h
    have cont : ∀ (s : List KE), kchkL j s = true → ∀ (np : Nat), (∀ e2 r2, s = e2 :: r2 → e2.1 = np) → ∀ {kc ks : Nat} {L : KL} {st : List KV} {G : KG} {I : KI}, kCont xs lay dd j stops Q (kN xs lay dd j code stops Q n) s kc ks L st G I → kWP xs lay dd kc ks j np L st G I Q := by
      intro s hs np hnp kc ks L st G I hk
      cases s with
      | nil => exact hk.elim
      | cons e2 r2 =>
        have := hnp e2 r2 rfl
        subst this
        unfold kCont at hk
        simp only at hk
        cases hl : klive e2.1 stops with
        | some live => rw [hl] at hk; exact kWP.sub (fun q hq => kpick_sub q hq) hk
        | none => rw [hl] at hk; exact ih e2 r2 hs hk
    unfold kchkL at hs
    rw [Bool.and_eq_true] at hs
    obtain ⟨h1, h2⟩ := hs
    unfold kN at h
    unfold kchk at h1
    split at h1
    · rename_i i len hd
      refine knth_ok kOps_ok e.2.1 xs lay dd kc ks j e.1 _ _ _ _ _ _ _ i len _ _ Q L st G I hd h1 h (fun kc ks L st G I hk => ?_) (fun t kc ks L st G I hk => ?_)
      · refine cont r h2 _ (fun e2 r2 he => ?_) hk
        rw [he]
      · obtain ⟨p, hp⟩ := kfind_suf (t := t) (code := code)
        refine cont (kfind t code) (kchkL_suf (p := p) (by rw [← hp]; exact hc)) t (fun e2 r2 he => kfind_hd he) hk
    · cases h1
/-- from any place of a method on, by numbers -/
theorem kRun {xs : KS} {lay : Bool} {dd j : Nat} {code : List KE} (hc : kchkL j code = true) (stops : List (Nat × List Nat)) (n pc : Nat) {Q : KQ} {kc ks : Nat} {L : KL} {st : List KV} {G : KG} {I : KI} (hne : (match kfind pc code with | [] => false | _ :: _ => true) = true)
    (h : kN xs lay dd j code stops Q n (kfind pc code) kc ks L st G I) : kWP xs lay dd kc ks j pc L st G I Q := by
  obtain ⟨p, hp⟩ := kfind_suf (t := pc) (code := code)
  cases he : kfind pc code with
  | nil => rw [he] at hne; cases hne
  | cons e r =>
    have h1 := kfind_hd he
    subst h1
    rw [he] at h
    exact kN_ok hc n e r (kchkL_suf (p := p) (by rw [← he, ← hp]; exact hc)) h
