/-! the sum by crossings -/
def kB : Int := 1048576
def kK : Int := -1099511627777
def jw (key e f : Nat) : Int := cond (Nat.beq (mte key e) f) kK kB
def bw (b : Bool) : Int := cond b kB 1
/-- one way on at a crossing: ends e f are joined, then e' f' -/
def kq (key e f e' f' : Nat) : Nat := jk (jk key e f) e' f'
def wq (key e f e' f' : Nat) : Int := Int.mul (jw key e f) (jw (jk key e f) e' f')
abbrev CrL : Type := List (Bool × Nat × Nat)
/-- all ways on from a state -/
def ref : CrL → Nat → Int
  | [], _ => 1
  | (b, o, u) :: rest, key => wq key (2 * o) (2 * u + 1) (2 * u) (2 * o + 1) * bw b * ref rest (kq key (2 * o) (2 * u + 1) (2 * u) (2 * o + 1)) + wq key (2 * o) (2 * u) (2 * o + 1) (2 * u + 1) * bw (!b) * ref rest (kq key (2 * o) (2 * u) (2 * o + 1) (2 * u + 1))
abbrev DcL : Type := List (Nat × Int)
def dci (k : Nat) (w : Int) : DcL → DcL
  | [] => [(k, w)]
  | (k', w') :: r => cond (Nat.beq k k') ((k', Int.add w w') :: r) ((k', w') :: dci k w r)
def dcs (b c : Int) (h o' u t : Nat) : DcL → DcL → DcL
  | [], N => N
  | (k, w) :: r, N => dcs b c h o' u t r (dci (kq k h t u o') (Int.mul w (Int.mul (wq k h t u o') b)) (dci (kq k h u o' t) (Int.mul w (Int.mul (wq k h u o' t) c)) N))
def dpr : CrL → DcL → Int
  | [], D => D.foldr (fun q a => Int.add q.2 a) 0
  | (b, o, u) :: rest, D => dpr rest (dcs (bw b) (bw (!b)) (Nat.mul 2 o) (Nat.succ (Nat.mul 2 o)) (Nat.mul 2 u) (Nat.succ (Nat.mul 2 u)) D [])
def dsum (φ : Nat → Int) : DcL → Int
  | [] => 0
  | (k, w) :: r => w * φ k + dsum φ r
theorem dci_s (φ : Nat → Int) (k : Nat) (w : Int) : ∀ D, dsum φ (dci k w D) = w * φ k + dsum φ D
  | [] => rfl
  | (k', w') :: r => by
    unfold dci
    cases hb : Nat.beq k k' with
    | true =>
      have e : k = k' := Nat.eq_of_beq_eq_true hb
      subst e
      show (w + w') * φ k + dsum φ r = w * φ k + (w' * φ k + dsum φ r)
      rw [Int.add_mul, Int.add_assoc]
    | false =>
      show w' * φ k' + dsum φ (dci k w r) = w * φ k + (w' * φ k' + dsum φ r)
      rw [dci_s φ k w r]
      omega
theorem dcs_s (φ : Nat → Int) (b c : Int) (h o' u t : Nat) : ∀ D N, dsum φ (dcs b c h o' u t D N) = dsum (fun k => wq k h t u o' * b * φ (kq k h t u o') + wq k h u o' t * c * φ (kq k h u o' t)) D + dsum φ N
  | [], N => by unfold dcs dsum; omega
  | (k, w) :: r, N => by
    unfold dcs
    rw [dcs_s φ b c h o' u t r, dci_s, dci_s]
    show _ = w * (wq k h t u o' * b * φ (kq k h t u o') + wq k h u o' t * c * φ (kq k h u o' t)) + dsum _ r + dsum φ N
    have e1 : Int.mul w (Int.mul (wq k h t u o') b) * φ (kq k h t u o') = w * (wq k h t u o' * b * φ (kq k h t u o')) := by
      show w * (wq k h t u o' * b) * φ (kq k h t u o') = _
      rw [Int.mul_assoc]
    have e2 : Int.mul w (Int.mul (wq k h u o' t) c) * φ (kq k h u o' t) = w * (wq k h u o' t * c * φ (kq k h u o' t)) := by
      show w * (wq k h u o' t * c) * φ (kq k h u o' t) = _
      rw [Int.mul_assoc]
    rw [e1, e2, Int.mul_add]
    omega
theorem dsum_1 : ∀ D : DcL, D.foldr (fun q a => Int.add q.2 a) 0 = dsum (fun _ => 1) D
  | [] => rfl
  | (k, w) :: r => by
    show w + r.foldr (fun q a => Int.add q.2 a) 0 = w * 1 + dsum _ r
    rw [dsum_1 r, Int.mul_one]
theorem dpr_s : ∀ (L : CrL) (D : DcL), dpr L D = dsum (ref L) D
  | [], D => dsum_1 D
  | (b, o, u) :: rest, D => by
    unfold dpr
    rw [dpr_s rest, dcs_s]
    show dsum _ D + 0 = _
    rw [Int.add_zero]
    rfl
/-- the key of a word's ends before all joining -/
def kyI (m : Nat) : Nat → Nat
  | 0 => 0
  | v + 1 => xdg (xdg (kyI m v) (2 * aft m v) (2 * v + 1)) (2 * v + 1) (2 * aft m v)
/-- the places of crossing c -/
def ix2 (c : Nat) : List Nat → Nat → Nat × Nat
  | [], _ => (0, 0)
  | x :: r, k => cond (Nat.beq x c) (k, ix1 c r (Nat.succ k)) (ix2 c r (Nat.succ k))
where ix1 (c : Nat) : List Nat → Nat → Nat
  | [], _ => 0
  | x :: r, k => cond (Nat.beq x c) k (ix1 c r (Nat.succ k))
def crL (w : List Nat) (s : Nat) : Nat → Nat → CrL
  | 0, _ => []
  | f + 1, c => (s.testBit c, ix2 c w 0) :: crL w s f (Nat.succ c)
def tgt (n p : Nat) : Int := (if n % 2 = 0 then -1 else 1) * 1099511627777 * kB ^ (n + 3 * p - 1)
def chk (n key : Nat) (w : List Nat) (s : Nat) : Bool := decide (dpr (crL w s n 0) [(key, 1)] = tgt n (npop s))
theorem tst1 : chk 7 (kyI 14 14) [0, 1, 2, 0, 3, 4, 5, 3, 6, 2, 1, 6, 4, 5] 0 = false := by decide +kernel
