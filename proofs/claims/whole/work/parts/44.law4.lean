/-! THE LAW'S TEXT: levels over a reader S of singles; k counts the rounds that are left -/
abbrev LSg : Type := Nat → Bool → LR
def lml (f : Nat → Int) (n : Nat) (S : LSg) : Nat → LR → LR
  | 0, r => r
  | k + 1, r =>
    if r.2.2 then r
    else if lsg f n r.2.1 = 42 then let q := S (r.2.1 + 1) false; lml f n S k (w32 (r.1 * q.1), q.2)
    else if lsg f n r.2.1 = 47 then let q := S (r.2.1 + 1) false; lml f n S k (ldv r.1 q.1, q.2)
    else if lsg f n r.2.1 = 37 then let q := S (r.2.1 + 1) false; lml f n S k (llf r.1 q.1, q.2)
    else r
def lmul (f : Nat → Int) (n : Nat) (S : LSg) : LSg := fun pl w => lml f n S 120 (S pl w)
def lal (f : Nat → Int) (n : Nat) (M : LSg) : Nat → LR → LR
  | 0, r => r
  | k + 1, r =>
    if r.2.2 then r
    else if lsg f n r.2.1 = 43 then let q := M (r.2.1 + 1) false; lal f n M k (w32 (r.1 + q.1), q.2)
    else if lsg f n r.2.1 = 45 then let q := M (r.2.1 + 1) false; lal f n M k (w32 (r.1 - q.1), q.2)
    else r
def ladd (f : Nat → Int) (n : Nat) (M : LSg) : LSg := fun pl w => lal f n M 120 (M pl w)
def lcmp (f : Nat → Int) (n : Nat) (A : LSg) : LSg := fun pl w =>
  let r := A pl w
  if r.2.2 then (0, r.2)
  else if lsg f n r.2.1 = 60 then let q := A (r.2.1 + 1) false; (bi (decide (r.1 < q.1)), q.2)
  else if lsg f n r.2.1 = 61 then let q := A (r.2.1 + 1) false; (bi (decide (r.1 = q.1)), q.2)
  else if lsg f n r.2.1 = 62 then let q := A (r.2.1 + 1) false; (bi (decide (q.1 < r.1)), q.2)
  else r
def lbl (f : Nat → Int) (n : Nat) (c : Int) (op : Int → Int → Int) (C : LSg) : Nat → LR → LR
  | 0, r => r
  | k + 1, r => if r.2.2 then r else if lsg f n r.2.1 = c then let q := C (r.2.1 + 1) false; lbl f n c op C k (op r.1 q.1, q.2) else r
def lbth (f : Nat → Int) (n : Nat) (C : LSg) : LSg := fun pl w => lbl f n 38 (fun a b => bi (decide (a ≠ 0 ∧ b ≠ 0))) C 120 (C pl w)
def leit (f : Nat → Int) (n : Nat) (B : LSg) : LSg := fun pl w => lbl f n 124 (fun a b => bi (decide (a ≠ 0 ∨ b ≠ 0))) B 120 (B pl w)
def lexp (f : Nat → Int) (n : Nat) (S : LSg) : LSg := leit f n (lbth f n (lcmp f n (ladd f n (lmul f n S))))
/-- a single, where u more signs may be open -/
def lsgl (f : Nat → Int) (n : Nat) (e : Int → Int) : Nat → LSg
  | 0 => fun pl w =>
    if 48 ≤ lsg f n pl ∧ lsg f n pl ≤ 57 then ((lnm f n 4 0 pl).1, (lnm f n 4 0 pl).2, w)
    else if lsg f n pl = 40 ∨ lsg f n pl = 33 ∨ lsg f n pl = 45 then (0, pl, true)
    else lnd f n e pl w
  | u + 1 => fun pl w =>
    if 48 ≤ lsg f n pl ∧ lsg f n pl ≤ 57 then ((lnm f n 4 0 pl).1, (lnm f n 4 0 pl).2, w)
    else if lsg f n pl = 33 then let q := lsgl f n e u (pl + 1) w; (bi (decide (q.1 = 0)), q.2)
    else if lsg f n pl = 45 then let q := lsgl f n e u (pl + 1) w; (w32 (-q.1), q.2)
    else if lsg f n pl = 40 then
      let q := lexp f n (lsgl f n e u) (pl + 1) w
      if q.2.2 then q else if lsg f n q.2.1 = 41 then (q.1, q.2.1 + 1, false) else (q.1, q.2.1, true)
    else lnd f n e pl w
