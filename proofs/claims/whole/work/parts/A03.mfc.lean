/-! THE MODEL: faces -/
def sgk (P : Pic) (c k : Nat) : Nat := if psg P c then k else (4 - k) % 4
theorem sgk_s (P : Pic) (c k : Nat) (hk : k < 4) : sgk P c ((k + 1) % 4) = (sgk P c k + sgs P c) % 4 := by
  unfold sgk sgs
  cases psg P c <;> simp <;> omega
theorem sgk_lt (P : Pic) (c k : Nat) (hk : k < 4) : sgk P c k < 4 := by
  unfold sgk
  split <;> omega
theorem sgk_k (P : Pic) (c k : Nat) (hk : k < 4) : sgk P c (sgk P c k) = k := by
  unfold sgk
  cases psg P c <;> simp <;> omega
theorem eo {P : Pic} (h : PicW P) {c e : Nat} (hc : c < P.2.length) (he : e < 4) : (eN P c e < P.1.length ∧ oN P c e = eN P c e + P.1.length) ∨ (P.1.length ≤ eN P c e ∧ oN P c e + P.1.length = eN P c e) := by
  have bo := bef_lt (pln_sp h hc true).1
  have bu := bef_lt (pln_sp h hc false).1
  rcases (by omega : e = 0 ∨ e = 1 ∨ e = 2 ∨ e = 3) with he | he | he | he <;> subst he <;> unfold eN oN <;> simp <;> omega
theorem t_M_findGoing {xs : KS} {d : Nat} {P : Pic} {G : KG} {I : KI} {Q : KQ} (hP : MHd P I) (hok : PicW P) (h : ∀ I' : KI, (∀ x : Nat, x < 2 * P.1.length → I' 111 (x : Int) = (gto P x : Int)) → kfr 111 113 I I' → Q 0 G I') : kWP xs true (d + 1) 0 0 153 0 [(0, 19, 0, 101)] [] G I Q := by
  have hP0 := hP
  obtain ⟨a7, a2, an, av, as⟩ := hP
  have hW := hok.pwh
  have bA : ∀ (J : KI) (Q' : KQ) (k : Nat), kfr 111 113 I J → k < P.1.length → Q' (bef P.1.length k : Int) G J → kWP xs true (d) 0 0 151 0 [(0, 19, 0, 101), (1, 0, 0, (k : Int))] [] G J Q' := fun J Q' k hf hk hq => t_M_before (n := P.2.length) (by rw [hf _ _ (by omega)]; exact an) a7 (by omega) (by rw [← a2]; exact hq)
  refine b_M_findGoing_0 ?_
  rw [an, w32_id (by omega) (by omega), show 2 * (P.2.length : Int) = (P.1.length : Int) by omega]
  refine loop_up (n := P.2.length) (W := fun c => ∀ J : KI, kfr 111 113 I J → (∀ c' e : Nat, c' < c → e < 4 → J 111 (eN P c' e : Int) = (gto P (eN P c' e) : Int)) → kWP xs true (d + 1) 0 0 153 9 [(0, 19, 0, 101), (1, 0, 0, (P.1.length : Int)), (2, 0, 0, (c : Int))] [] G J Q) ?_ ?_ (Nat.zero_le _) I (kfr.rf _ _ _) (fun c' e hc' => absurd hc' (Nat.not_lt_zero c'))
  · intro J hf hD
    refine b_M_findGoing_9 ?_
    rw [hf _ _ (by omega), an]
    refine ⟨fun _ => h J (fun x hx => ?_) hf, fun hh => by omega⟩
    obtain ⟨c, e, hc, he, rfl⟩ := eN_all hok hx
    exact hD c e hc he
  · intro c hcn ih J hf hD
    obtain ⟨o1, o2, o3⟩ := pln_sp hok hcn true
    obtain ⟨u1, u2, u3⟩ := pln_sp hok hcn false
    have bo := bef_lt o1
    have bu := bef_lt u1
    have hPJ : MHd P J := hP0.fr (fun a k hk => hf _ _ (by omega))
    have go : ∀ J4 : KI, kfr 111 113 I J4 → J4 112 0 = (eN P c (sgk P c 0) : Int) → J4 112 1 = (eN P c (sgk P c 1) : Int) → J4 112 2 = (eN P c (sgk P c 2) : Int) → J4 112 3 = (eN P c (sgk P c 3) : Int) → (∀ c' e : Nat, c' < c → e < 4 → J4 111 (eN P c' e : Int) = (gto P (eN P c' e) : Int)) → kWP xs true (d + 1) 0 0 153 113 [(0, 19, 0, 101), (1, 0, 0, (P.1.length : Int)), (2, 0, 0, (c : Int)), (5, 0, 0, ((0 : Nat) : Int))] [] G J4 Q := by
      intro J4 hf4 q0 q1 q2 q3 hD4
      have qa : ∀ k : Nat, k < 4 → J4 112 (k : Int) = (eN P c (sgk P c k) : Int) := fun k hk => by
        rcases (by omega : k = 0 ∨ k = 1 ∨ k = 2 ∨ k = 3) with e | e | e | e <;> subst e
        · exact q0
        · exact q1
        · exact q2
        · exact q3
      refine loop_up (n := 4) (W := fun k => ∀ J : KI, kfr 111 113 I J → (∀ j : Nat, j < 4 → J 112 (j : Int) = (eN P c (sgk P c j) : Int)) → (∀ c' e : Nat, c' < c → e < 4 → J 111 (eN P c' e : Int) = (gto P (eN P c' e) : Int)) → (∀ j : Nat, j < k → J 111 (eN P c (sgk P c j) : Int) = (gto P (eN P c (sgk P c j)) : Int)) → kWP xs true (d + 1) 0 0 153 113 [(0, 19, 0, 101), (1, 0, 0, (P.1.length : Int)), (2, 0, 0, (c : Int)), (5, 0, 0, (k : Int))] [] G J Q) ?_ ?_ (Nat.zero_le _) J4 hf4 qa hD4 (fun j hj => absurd hj (Nat.not_lt_zero j))
      · intro J hf hq hD hd
        refine b_M_findGoing_113 ⟨fun _ => ?_, fun hh => by omega⟩
        rw [w32_inc (by omega)]
        refine ih J hf (fun c' e hc' he => ?_)
        by_cases hcc : c' = c
        · subst hcc
          have := hd (sgk P c' e) (sgk_lt P c' e he)
          rw [sgk_k P c' e he] at this
          exact this
        · exact hD c' e (by omega) he
      · intro k hk ihk J hf hq hD hd
        have e1 := eN_lt (e := sgk P c k) hok hcn
        have hk1 : (k + 1) % 4 < 4 := by omega
        have e2 := eo hok hcn (sgk_lt P c _ hk1)
        have hg : gto P (eN P c (sgk P c k)) = oN P c (sgk P c ((k + 1) % 4)) := by rw [gto_eN hok hcn (sgk_lt P c k hk), sgk_s P c k hk]
        have wr : ∀ (J1 : KI) (v : Int), J1 = kst J 111 (eN P c (sgk P c k) : Int) v → v = (oN P c (sgk P c ((k + 1) % 4)) : Int) → kWP xs true (d + 1) 0 0 153 113 [(0, 19, 0, 101), (1, 0, 0, (P.1.length : Int)), (2, 0, 0, (c : Int)), (5, 0, 0, ((k + 1 : Nat) : Int))] [] G J1 Q := fun J1 v eJ ev => by
          rw [ev, ← hg] at eJ
          have wv : ∀ x : Nat, J 111 (x : Int) = (gto P x : Int) → J1 111 (x : Int) = (gto P x : Int) := fun x hx => by
            rw [eJ]
            by_cases hxe : x = eN P c (sgk P c k)
            · rw [hxe, kst_s]
            · rw [kst_n (by omega)]; exact hx
          refine ihk J1 (hf.tr (fun a b hab => by rw [eJ, kst_n (by omega)])) (fun j hj => by rw [eJ, kst_n (by omega)]; exact hq j hj) (fun c' e hc' he => wv _ (hD c' e hc' he)) (fun j hj => ?_)
          by_cases hjk : j = k
          · rw [hjk, eJ, kst_s]
          · exact wv _ (hd j (by omega))
        refine b_M_findGoing_113 ⟨fun hh => by omega, fun _ => ⟨by omega, fun h3 => ?_, fun h3 => ?_⟩⟩
        · have hk2 : (k + 1) % 4 = k + 1 := by omega
          rw [hk2] at e2 wr
          rw [w32_inc (by omega), hq k hk, hq (k + 1) (by omega)]
          have b2 := eN_lt (e := sgk P c (k + 1)) hok hcn
          rw [w32_id (x := (eN P c (sgk P c (k + 1)) : Int) - _) (by omega) (by omega), w32_id (x := (eN P c (sgk P c (k + 1)) : Int) + _) (by omega) (by omega)]
          exact ⟨by omega, fun h4 => ⟨by omega, fun J1 e => wr J1 _ e (by omega)⟩, fun h4 => ⟨by omega, fun J1 e => wr J1 _ e (by omega)⟩⟩
        · have hk2 : (k + 1) % 4 = 0 := by omega
          rw [hk2] at e2 wr
          have q00 : J 112 0 = (eN P c (sgk P c 0) : Int) := hq 0 (by omega)
          rw [w32_inc (by omega), hq k hk, q00]
          have b2 := eN_lt (e := sgk P c 0) hok hcn
          rw [w32_id (x := (eN P c (sgk P c 0) : Int) - _) (by omega) (by omega), w32_id (x := (eN P c (sgk P c 0) : Int) + _) (by omega) (by omega)]
          exact ⟨by omega, fun h4 => ⟨by omega, fun J1 e => wr J1 _ e (by omega)⟩, fun h4 => ⟨by omega, fun J1 e => wr J1 _ e (by omega)⟩⟩
    refine b_M_findGoing_9 ?_
    rw [hf _ _ (by omega), an]
    refine ⟨fun hh => by omega, fun _ => t_M_placeOf (b := true) hPJ (t_M_placeOf (b := false) hPJ ?_)⟩
    rw [plc_pln hW hcn, plc_pln hW hcn]
    have z0 : ∀ b : Bool, psg P c = b → sgk P c 0 = 0 ∧ sgk P c 2 = 2 ∧ sgk P c 1 = (if b then 1 else 3) ∧ sgk P c 3 = (if b then 3 else 1) := fun b hb => by
      unfold sgk
      rw [hb]
      cases b <;> simp
    have v0 : eN P c 0 = bef P.1.length (pln P c true) := rfl
    have v1 : eN P c 1 = bef P.1.length (pln P c false) := rfl
    have v2 : eN P c 2 = pln P c true + P.1.length := rfl
    have v3 : eN P c 3 = pln P c false + P.1.length := rfl
    generalize pln P c true = o at *
    generalize pln P c false = u at *
    refine bA J _ o hf o1 ⟨by omega, fun J1 e1 => ⟨by omega, ?_⟩⟩
    have g1 : J1 108 (c : Int) = sgi (psg P c) := by rw [e1, kst_n (by omega), hf _ _ (by omega)]; exact as c hcn
    have f1 : kfr 111 113 I J1 := hf.tr (fun a b hab => by rw [e1, kst_n (by omega)])
    have k1 : ∀ x : Int, J1 111 x = J 111 x := fun x => by rw [e1, kst_n (by omega)]
    have c10 : J1 112 0 = (bef P.1.length o : Int) := by rw [e1, kst_s]
    clear e1
    rw [w32_id (x := (u : Int) + _) (by omega) (by omega), w32_id (x := (o : Int) + _) (by omega) (by omega), g1]
    refine ⟨fun h1 => ?_, fun h1 => ?_⟩
    · have p0 : psg P c = false := by cases hb : psg P c with | false => rfl | true => rw [hb] at h1; exact absurd rfl h1
      obtain ⟨z1, z2, z3, z4⟩ := z0 false p0
      refine ⟨by omega, fun J2 e2 => ⟨by omega, fun J3 e3 => ⟨by omega, fun h2 => ?_, fun h2 => ?_⟩⟩⟩
      · have f3 : kfr 111 113 I J3 := f1.tr (fun a b hab => by rw [e3, kst_n (by omega), e2, kst_n (by omega)])
        refine bA J3 _ u f3 u1 ⟨by omega, fun J4 e4 => ?_⟩
        refine go J4 (f3.tr (fun a b hab => by rw [e4, kst_n (by omega)])) ?_ ?_ ?_ ?_ (fun c' e hc' he => ?_)
        · rw [z1, v0, e4, kst_n (by omega), e3, kst_n (by omega), e2, kst_n (by omega)]; exact c10
        · rw [z3, if_neg (by simp), v3, e4, kst_n (by omega), e3, kst_n (by omega), e2, kst_s]; omega
        · rw [z2, v2, e4, kst_n (by omega), e3, kst_s]; omega
        · rw [z4, if_neg (by simp), v1, e4, kst_s]
        · rw [e4, kst_n (by omega), e3, kst_n (by omega), e2, kst_n (by omega), k1]; exact hD c' e hc' he
      · rw [e3, kst_n (by omega), e2, kst_n (by omega), g1, p0] at h2
        exact absurd h2 (by decide)
    · have p1 : psg P c = true := by cases hb : psg P c with | true => rfl | false => rw [hb] at h1; exact absurd h1 (by decide)
      obtain ⟨z1, z2, z3, z4⟩ := z0 true p1
      refine bA J1 _ u f1 u1 ⟨by omega, fun J2 e2 => ⟨by omega, fun J3 e3 => ⟨by omega, fun h2 => ?_, fun h2 => ?_⟩⟩⟩
      · rw [e3, kst_n (by omega), e2, kst_n (by omega), g1, p1] at h2
        exact absurd rfl h2
      · refine ⟨by omega, fun J4 e4 => ?_⟩
        refine go J4 (f1.tr (fun a b hab => by rw [e4, kst_n (by omega), e3, kst_n (by omega), e2, kst_n (by omega)])) ?_ ?_ ?_ ?_ (fun c' e hc' he => ?_)
        · rw [z1, v0, e4, kst_n (by omega), e3, kst_n (by omega), e2, kst_n (by omega)]; exact c10
        · rw [z3, if_pos rfl, v1, e4, kst_n (by omega), e3, kst_n (by omega), e2, kst_s]
        · rw [z2, v2, e4, kst_n (by omega), e3, kst_s]; omega
        · rw [z4, if_pos rfl, v3, e4, kst_s]; omega
        · rw [e4, kst_n (by omega), e3, kst_n (by omega), e2, kst_n (by omega), k1]; exact hD c' e hc' he
theorem t_M_faces {xs : KS} {d : Nat} {P : Pic} {G : KG} {I : KI} {Q : KQ} (hP : MHd P I) (hok : PicW P) (h : ∀ I' : KI, kfr 111 113 I I' → Q (fcC P : Int) G I') : kWP xs true (d + 2) 0 0 154 0 [(0, 19, 0, 101)] [] G I Q := by
  have hP0 := hP
  obtain ⟨a7, a2, an, av, as⟩ := hP
  refine b_M_faces_0 ?_
  rw [an]
  refine ⟨fun h0 => t_M_findGoing hP0 hok (fun J hT hf => ?_), fun h0 => ?_⟩
  · have hi := gto_inj hok
    have he := orb_eqv hi
    rw [fcC_cnt hok (by omega), ← gto_cnt hok] at h
    have hN : 2 * P.1.length ≤ 28 := by omega
    have p28 := p28 hN
    refine loop_up (n := 2 * P.1.length) (W := fun x => ∀ g : Nat, g < 2 ^ (2 * P.1.length) → (∀ y, g.testBit y = true ↔ ∃ z, z < x ∧ orb (gto P) z y) → kWP xs true (d + 2) 0 0 154 19 [(0, 19, 0, 101), (1, 0, 0, (cnt (orb (gto P)) x : Int)), (2, 0, 0, (g : Int)), (3, 0, 0, (x : Int))] [] G J Q) ?_ ?_ (Nat.zero_le _) 0 (Nat.two_pow_pos _) (fun y => ⟨fun hh => by simp at hh, fun ⟨z, hz, _⟩ => absurd hz (Nat.not_lt_zero z)⟩)
    · intro g hg hb
      refine b_M_faces_19 ?_
      rw [hf _ _ (by omega), an, w32_id (by omega) (by omega)]
      exact ⟨fun _ => h J hf, fun hh => by omega⟩
    · intro x hx ih g hg hb
      have hcx : cnt (orb (gto P)) x ≤ x := by
        have := List.countP_le_length (p := fun x => cdc (mnl (orb (gto P)) x)) (l := List.range x)
        rw [List.length_range] at this
        exact this
      refine b_M_faces_19 ?_
      rw [hf 101 5 (by omega), an, w32_id (x := 4 * _) (by omega) (by omega), kbit_n (by omega) (by omega), w32_inc (by omega), w32_inc (by omega)]
      refine ⟨fun hh => by omega, fun _ => ⟨fun h1 => ?_, fun h1 => ?_⟩⟩
      · have hnb : ¬ g.testBit x = true := fun hh => h1 (by rw [if_pos hh])
        have hp := per_ok hi hx
        refine loop_up (n := per (gto P) (2 * P.1.length) x) (W := fun i => kWP xs true (d + 2) 0 0 154 47 [(0, 19, 0, 101), (1, 0, 0, ((cnt (orb (gto P)) x + 1 : Nat) : Int)), (2, 0, 0, (orm (gto P) g x i : Int)), (3, 0, 0, (x : Int)), (4, 0, 0, (itr (gto P) i x : Int))] [] G J Q) ?_ ?_ (Nat.zero_le _)
        · have hl := orm_lt hi hx hg (per (gto P) (2 * P.1.length) x)
          refine b_M_faces_47 ?_
          rw [hp.2.2.1, kbit_n (by omega) (by omega), w32_inc (by omega)]
          have hbit : (orm (gto P) g x (per (gto P) (2 * P.1.length) x)).testBit x = true := (orm_b _ _ _ _ _).mpr (Or.inr ⟨0, hp.1, rfl⟩)
          rw [if_pos hbit]
          refine ⟨fun _ => ?_, fun hh => absurd hh (by decide)⟩
          have hc : cnt (orb (gto P)) (x + 1) = cnt (orb (gto P)) x + 1 := by
            have hm : mnl (orb (gto P)) x := fun z hz hr => hnb ((hb x).mpr ⟨z, hz, hr⟩)
            rw [cnt_s, cdc_iff.mpr hm]; rfl
          rw [← hc]
          refine ih _ hl (fun y => ?_)
          rw [orm_p hi hx, hb y]
          constructor
          · rintro (⟨z, hz, hr⟩ | hr)
            · exact ⟨z, by omega, hr⟩
            · exact ⟨x, by omega, hr⟩
          · rintro ⟨z, hz, hr⟩
            by_cases hzx : z = x
            · subst hzx; exact Or.inr hr
            · exact Or.inl ⟨z, by omega, hr⟩
        · intro i hip ihi
          have hl := orm_lt hi hx hg i
          have ht := itr_lt hi hx i
          have hnbit : ¬ (orm (gto P) g x i).testBit (itr (gto P) i x) = true := fun hh => by
            rcases (orm_b _ _ _ _ _).mp hh with h2 | ⟨j, hj, e⟩
            · obtain ⟨z, hz, hr⟩ := (hb _).mp h2
              exact hnb ((hb x).mpr ⟨z, hz, he.2.2 _ _ _ (by omega) ht hx hr (he.2.1 _ _ hx ht ⟨i, rfl⟩)⟩)
            · exact per_nd hi hx hj hip e
          refine b_M_faces_47 ?_
          rw [kbit_n (by omega) (by omega), if_neg hnbit, kishl_n (by omega), hT _ ht]
          have h31 : 2 ^ (itr (gto P) i x) < 2147483648 := by
            have := Nat.pow_lt_pow_right (a := 2) (by omega) ht
            omega
          rw [kior_n (by omega) h31]
          exact ⟨fun hh => absurd rfl hh, fun _ => ⟨by omega, ihi⟩⟩
      · have hbit : g.testBit x = true := by
          cases hbb : g.testBit x with
          | true => rfl
          | false => rw [hbb] at h1; simp at h1
        obtain ⟨z, hz, hr⟩ := (hb x).mp hbit
        have hc : cnt (orb (gto P)) (x + 1) = cnt (orb (gto P)) x := by
          rw [cnt_s, cdc_f.mpr (fun hm => hm z hz hr)]; rfl
        rw [← hc]
        refine ih g hg (fun y => ?_)
        rw [hb y]
        constructor
        · rintro ⟨z, hz, hr⟩; exact ⟨z, by omega, hr⟩
        · rintro ⟨z', hz', hr'⟩
          by_cases hzx : z' = x
          · subst hzx
            obtain ⟨a, ea⟩ := hr
            obtain ⟨b, eb⟩ := hr'
            exact ⟨z, hz, b + a, by rw [itr_add, ea, eb]⟩
          · exact ⟨z', by omega, hr'⟩
  · have : fcC P = 2 := by unfold fcC; rw [if_pos (by omega)]
    rw [this] at h
    exact h I (kfr.rf _ _ _)
theorem hasF {xs : KS} : ∀ (d : Nat) (P : Pic) (G : KG) (I : KI) (Q : KQ), MHd P I → PicOk P → (∀ I' : KI, kfr 111 113 I I' → Q (fcC P : Int) G I') → kWP xs true (d + 5) 0 0 154 0 [(0, 19, 0, 101)] [] G I Q := fun _ _ _ _ _ h1 h2 h3 => t_M_faces h1 h2.w h3
theorem t_M_canBeDrawn {xs : KS} {d : Nat} {P : Pic} {G : KG} {I : KI} {Q : KQ} (hP : MHd P I) (hok : PicW P) (h : ∀ I' : KI, kfr 111 113 I I' → Q (bi (decide (fcC P = P.2.length + 2))) G I') : kWP xs true (d + 3) 0 0 155 0 [(0, 19, 0, 101)] [] G I Q := by
  refine b_M_canBeDrawn_0 (t_M_faces hP hok (fun J hf => ?_))
  have h := h J hf
  have h7 := hP.1
  rw [hf _ _ (by omega), hP.2.2.1, w32_id (by omega) (by omega)]
  refine ⟨fun h1 => ?_, fun h1 => ?_⟩
  · rw [decide_eq_false (by omega)] at h; exact h
  · rw [decide_eq_true (by omega)] at h; exact h
