/-! THE STATE, ABSTRACTLY; what each call answers and leaves -/
/-- pictures; tape; law; changes and how many may be undone; lies and the latest bodies; shelves -/
abbrev St : Type := List Pic × List Int × List Int × (List Int × Nat) × (List Int × List Int) × List Shf
abbrev Op : Type := St → Int × St
def fw8 (T : List Int) (k : Nat) : Int := w8 (T.getD k 0)
def isP (ps : List Pic) (p : Int) : Prop := 0 ≤ p ∧ p < ps.length
def pg (ps : List Pic) (p : Int) : Pic := pget ps p.toNat
def pv (xs : KS) (P : Pic) : Nat → Int := val xs P (plm P.2)
def fdB (v : Int) (n : Nat) : List Int := (List.range n).map (fun (k : Nat) => kishr v (8 * (k : Int)) % 256)
def opFeed (n v : Int) : Op := fun S => if n < 1 ∨ 4 < n then (-1, S) else if 120 < (S.2.1.length : Int) + n then (-3, S) else ((S.2.1.length : Int) + n, (S.1, S.2.1 ++ fdB v n.toNat, S.2.2))
def addP (S : St) (P : Pic) : Int × St := ((S.1.length : Int), (S.1 ++ [P], S.2))
def opPicture : Op := fun S => if 12 ≤ S.1.length then (-3, S) else
  let r := rtp (fw8 S.2.1) S.2.1.length (S.2.1.length + 1) 0 ([], [])
  let S' : St := (S.1, [], S.2.2)
  if r.1 ≠ -1 then (w32 (-100 - r.1), S') else if fcC r.2 = r.2.2.length + 2 then addP S' r.2 else (-2, S')
def rowAt (l : List Int) (i : Nat) (k : Nat) : Int := l.getD (i + k) 0
def opFromRow (v i n : Int) : Op := fun S => if ¬ (0 ≤ v ∧ v < 6 ∧ 0 ≤ n ∧ n ≤ 7) then (-1, S) else if 12 ≤ S.1.length then (-3, S) else
  match sget S.2.2.2.2.2 v with
  | none => (-11, S)
  | some (.inl _) => (-12, S)
  | some (.inr (s, l)) => if s ≠ 0 then (-12, S) else if ¬ (0 ≤ i ∧ i ≤ (l.length : Int) - 2 * n) then (-13, S) else
    match rdW (rowAt l i.toNat) (2 * n.toNat) with
    | none => (-2, S)
    | some P => if fcC P = P.2.length + 2 then addP S P else (-2, S)
def wsT (m : Nat) (T : List Int) (k : Nat) : Nat := (ltr m (fw8 T k)).getD 0
def opPlait (m : Int) : Op := fun S => if m < 2 ∨ 4 < m then (-1, S) else if 12 ≤ S.1.length then (-3, S) else
  let n := S.2.1.length
  let S' : St := (S.1, [], S.2.2)
  let q := fnd (wbad m.toNat (fw8 S.2.1)) n
  if q < n then (w32 (-100 - (q : Int)), S') else if clO (wsT m.toNat S.2.1) n m.toNat = true then addP S' (clP (wsT m.toNat S.2.1) n m.toNat) else (-2, S')
def whc (xs : KS) (ps : List Pic) (p : Nat) : Int := let r := fnd (fun i => eqV (pv xs (pget ps i)) (pv xs (pget ps p))) p; if r < p then (r : Int) else -2
def opOf (xs : KS) (p what : Int) : Op := fun S => if 0 ≤ p ∧ p < S.1.length then
    let P := pg S.1 p
    (if what = 0 then (P.2.length : Int) else if what = 1 then wrh P else if what = 2 then (fcC P : Int) else if what = 3 then lsP (pv xs P) else if what = 4 then gsP (pv xs P) else if what = 5 then bi (isPl (pv xs P)) else if what = 6 then whc xs S.1 p.toNat else -2000000000, S)
  else (-2000000000, S)
def opLed (p k what : Int) : Op := fun S => if 0 ≤ p ∧ p < S.1.length ∧ 0 ≤ k ∧ k < (pg S.1 p).1.length then
    let P := pg S.1 p
    (if what = 0 then 10 * (pcx P k.toNat : Int) + bi (pov P k.toNat) else if what = 1 then (if psg P (pcx P k.toNat) = true then 1 else -1) else if what = 2 then (agn P k.toNat : Int) else -2000000000, S)
  else (-2000000000, S)
def opSum (xs : KS) (p e : Int) : Op := fun S => if 0 ≤ p ∧ p < S.1.length ∧ -60 ≤ e ∧ e ≤ 60 then (if -42 ≤ e ∧ e ≤ 42 ∧ e % 2 = 0 then pv xs (pg S.1 p) ((e + 42) / 2).toNat else 0, S) else (-2000000000, S)
def isPQ (ps : List Pic) (pq : Int) : Prop := 0 ≤ pq ∧ pq / 100 < ps.length ∧ pq % 100 < ps.length
def opAlike (xs : KS) (pq : Int) : Op := fun S => if 0 ≤ pq ∧ pq / 100 < S.1.length ∧ pq % 100 < S.1.length then (bi (eqV (pv xs (pg S.1 (pq / 100))) (pv xs (pg S.1 (pq % 100)))), S) else (-1, S)
def rbM (P : Pic) : Pic := (bldF bs0 (vlm P P.1.length)).2
def rbT (P : Pic) : Pic := (bldF bs0 (vlt P P.1.length)).2
def rbJ (P R : Pic) : Pic := (bldF bs0 (vla P 0 P.1.length ++ vla R 7 R.1.length)).2
def opMirror (p : Int) : Op := fun S => if 0 ≤ p ∧ p < S.1.length then (if 12 ≤ S.1.length then (-3, S) else addP S (rbM (pg S.1 p))) else (-1, S)
def opTurn (p : Int) : Op := fun S => if 0 ≤ p ∧ p < S.1.length then (if 12 ≤ S.1.length then (-3, S) else addP S (rbT (pg S.1 p))) else (-1, S)
def opJoin (pq : Int) : Op := fun S => if 0 ≤ pq ∧ pq / 100 < S.1.length ∧ pq % 100 < S.1.length then (if 12 ≤ S.1.length then (-3, S) else if 7 < (pg S.1 (pq / 100)).2.length + (pg S.1 (pq % 100)).2.length then (-4, S) else addP S (rbJ (pg S.1 (pq / 100)) (pg S.1 (pq % 100)))) else (-1, S)
def opChange (p c : Int) : Op := fun S => if 0 ≤ p ∧ p < S.1.length ∧ 0 ≤ c ∧ c < (pg S.1 p).2.length then
    let P := chg (pg S.1 p) c.toNat
    (wrh P, (S.1.set p.toNat P, S.2.1, S.2.2.1, (chAdd S.2.2.2.1.1 S.2.2.2.1.2 (10 * p + c), chLen S.2.2.2.1.2), S.2.2.2.2))
  else (-2000000000, S)
def opPulls (xs : KS) (p what : Int) : Op := fun S => if 0 ≤ p ∧ p < S.1.length ∧ 0 ≤ what ∧ what ≤ 1 then
    let b := fwc xs (pg S.1 p) (2 ^ (pg S.1 p).2.length)
    (if what = 0 then (npop b : Int) else (b : Int), S)
  else (-1, S)
def opMoves (p what : Int) : Op := fun S => if 0 ≤ p ∧ p < S.1.length ∧ 0 ≤ what ∧ what ≤ 1 then
    let g := gbm (pg S.1 p)
    (if what = 0 then (npop g : Int) else if g = 0 then -2 else dig g 7, S)
  else (-1, S)
def opSimpler (p what : Int) : Op := fun S => if 0 ≤ p ∧ p < S.1.length ∧ 0 ≤ what ∧ what ≤ 1 then
    let r := smpL 7 (pg S.1 p)
    (if what = 0 then (r.1 : Int) else (r.2.2.length : Int), S)
  else (-1, S)
def opSimplify (p : Int) : Op := fun S => if 0 ≤ p ∧ p < S.1.length then
    let r := smpL 7 (pg S.1 p)
    ((r.2.2.length : Int), (S.1.set p.toNat r.2, S.2.1, S.2.2.1, ([], 0), S.2.2.2.2))
  else (-1, S)
def prt (P : Pic) : Nat := fnd (fun i => decide (0 ≤ fop P (i + 2))) (P.1.length - 2)
def opParted (p what : Int) : Op := fun S => if 0 ≤ p ∧ p < S.1.length ∧ 0 ≤ what ∧ what ≤ 1 then
    let P := pg S.1 p
    (if prt P < P.1.length - 2 then (if what = 0 then (prt P : Int) + 2 else fop P (prt P + 2)) else -2, S)
  else (-1, S)
def opHidden (xs : KS) (p h what : Int) : Op := fun S => if 0 ≤ p ∧ p < S.1.length ∧ 0 ≤ what ∧ what ≤ 1 ∧ 0 ≤ h ∧ h < (2 ^ (pg S.1 p).2.length : Nat) then
    let P := pg S.1 p
    (if what = 0 then (plA xs P h.toNat (2 ^ P.2.length) : Int) else ((unA xs P h.toNat (2 ^ P.2.length)).length : Int), S)
  else (-1, S)
/-- of the words of small letters below a number: what they count -/
def ltA (xs : KS) (ps : List Pic) (m L : Nat) (what : Int) : Nat → Nat
  | 0 => 0
  | w + 1 => ltA xs ps m L what w + (if clO (wdg (m - 1) w) L m = true then cwW xs ps (clP (wdg (m - 1) w) L m) what else 0)
def opLots (xs : KS) (ml what : Int) : Op := fun S => if 0 ≤ ml ∧ -2 ≤ what ∧ what < S.1.length ∧ 2 ≤ ml / 10 ∧ ml / 10 ≤ 4 ∧ 1 ≤ ml % 10 ∧ ml % 10 ≤ (if ml / 10 = 4 then 5 else 6) then
    ((ltA xs S.1 (ml / 10).toNat (ml % 10).toNat what (((ml / 10).toNat - 1) ^ (ml % 10).toNat) : Int), S)
  else (-1, S)
def e0 : Int → Int := fun _ => 0
def opLaw : Op := fun S =>
  let r := (wor (fw8 S.2.1) S.2.1.length e0).2
  if r.2 = true then (w32 (-100 - (r.1 : Int)), (S.1, [], S.2.2)) else (1, (S.1, [], S.2.1, S.2.2.2))
def shkS (xs : KS) (w : List Int) (len box sm seed : Int) (t : Nat) : Nat × Nat := (shk xs (fw8 w) w.length len box (kidiv sm 10) (kirem sm 10).toNat seed t).2
def opShake (xs : KS) (nb sm seed tn : Int) : Op := fun S => if 0 ≤ nb ∧ nb ≤ 9999 ∧ isSm sm = true ∧ 0 ≤ tn ∧ 1 ≤ tn / 10 ∧ tn / 10 ≤ 50 ∧ tn % 10 ≤ 1 then
    let r := shkS xs S.2.2.1 (nb / 100) (nb % 100) sm seed (tn / 10).toNat
    (if tn % 10 = 0 then (r.1 : Int) else (r.2 : Int), S)
  else (-1, S)
def lstL (xs : KS) (w : List Int) (box sm seed v : Int) : Nat := fnd (fun l => decide (v ≤ ((shkS xs w (l : Int) box sm seed 20).1 : Int))) 100
def opLeast (xs : KS) (box sm seed v : Int) : Op := fun S => if 0 ≤ box ∧ box ≤ 99 ∧ isSm sm = true ∧ 1 ≤ v ∧ v ≤ 20 then
    (if lstL xs S.2.2.1 box sm seed v < 100 then (lstL xs S.2.2.1 box sm seed v : Int) else -2, S)
  else (-1, S)
/-- a change applied once more -/
def chP (ps : List Pic) (x : Int) : List Pic := ps.set (x / 10).toNat (chg (pg ps (x / 10)) (x % 10).toNat)
def opUndo : Op := fun S => if S.2.2.2.1.2 = 0 then (-5, S) else
  ((S.2.2.2.1.2 : Int) - 1, (chP S.1 (S.2.2.2.1.1.getD (S.2.2.2.1.2 - 1) 0), S.2.1, S.2.2.1, (S.2.2.2.1.1, S.2.2.2.1.2 - 1), S.2.2.2.2))
def opRedo : Op := fun S => if S.2.2.2.1.2 = S.2.2.2.1.1.length then (-5, S) else
  ((S.2.2.2.1.1.length : Int) - S.2.2.2.1.2 - 1, (chP S.1 (S.2.2.2.1.1.getD S.2.2.2.1.2 0), S.2.1, S.2.2.1, (S.2.2.2.1.1, S.2.2.2.1.2 + 1), S.2.2.2.2))
def opBody (k : Int) : Op := fun S => if 0 ≤ k ∧ k < 8 then (if S.2.2.2.2.1.1.length < 50 then ((S.2.2.2.2.1.1.length : Int), (S.1, S.2.1, S.2.2.1, S.2.2.2.1, (S.2.2.2.2.1.1 ++ [k], S.2.2.2.2.1.2), S.2.2.2.2.2)) else (-3, S)) else (-1, S)
def opAct (b act x : Int) : Op := fun S => let r := bgn S.2.2.2.2.1.1 b act x; (r.1, (S.1, S.2.1, S.2.2.1, S.2.2.2.1, (S.2.2.2.2.1.1, r.2), S.2.2.2.2.2))
def opTrace (i : Int) : Op := fun S => (if 0 ≤ i ∧ i < S.2.2.2.2.1.2.length ∧ i < 24 then S.2.2.2.2.1.2.getD i.toNat 0 else -1, S)
def setSh (S : St) (v : Int) (x : Shf) : St := (S.1, S.2.1, S.2.2.1, S.2.2.2.1, S.2.2.2.2.1, S.2.2.2.2.2.set v.toNat x)
def opKeep (v b : Int) : Op := fun S => if 0 ≤ v ∧ v < 6 ∧ -1 ≤ b ∧ b < S.2.2.2.2.1.1.length then (1, setSh S v (shLie b)) else (-1, S)
def opRow (v s n : Int) : Op := fun S => if 0 ≤ v ∧ v < 6 ∧ 0 ≤ s ∧ s ≤ 4 ∧ n ≤ 60 then (if n < 0 then (-14, S) else (1, setSh S v (some (.inr (s.toNat, List.replicate (min n.toNat 60) 0))))) else (-1, S)
def opPut (v i x : Int) : Op := fun S => if shR S.2.2.2.2.2 v i = 0 then (1, setSh S v (match sget S.2.2.2.2.2 v with
    | some (.inr (s, l)) => some (.inr (s, l.set i.toNat (shCut s x)))
    | z => z)) else (shR S.2.2.2.2.2 v i, S)
def opElement (v i : Int) : Op := fun S => (if shR S.2.2.2.2.2 v i = 0 then (match sget S.2.2.2.2.2 v with
    | some (.inr (_, l)) => l.getD i.toNat 0
    | _ => 0) else -9223372036854775808, S)
/-- elements of a row laid over those of another one -/
def lay (l r : List Int) (i j n : Nat) : List Int := (List.range r.length).map (fun k => if j ≤ k ∧ k < j + n then l.getD (i + (k - j)) 0 else r.getD k 0)
def opShift (v i e j n : Int) : Op := fun S => if ¬ (0 ≤ v ∧ v < 6 ∧ 0 ≤ e ∧ e < 6) then (-1, S) else
  match sget S.2.2.2.2.2 v, sget S.2.2.2.2.2 e with
  | none, _ => (-11, S)
  | some _, none => (-11, S)
  | some (.inl _), some _ => (-12, S)
  | some (.inr _), some (.inl _) => (-12, S)
  | some (.inr (s, l)), some (.inr (t, r)) => if s ≠ t then (-12, S) else if ¬ (0 ≤ i ∧ 0 ≤ n ∧ i ≤ (l.length : Int) - n ∧ 0 ≤ j ∧ j ≤ (r.length : Int) - n) then (-13, S) else (n, setSh S e (some (.inr (t, lay l r i.toNat j.toNat n.toNat))))
def opTaken (xs : KS) (v k : Int) : Op := fun S => (if ¬ (0 ≤ v ∧ v < 6 ∧ 0 ≤ k ∧ k < 8) then -1 else match sget S.2.2.2.2.2 v with
    | none => -11
    | some (.inr _) => -12
    | some (.inl b) => if undr xs k 8 (kindK S.2.2.2.2.1.1 (b : Int)) = true then kindK S.2.2.2.2.1.1 (b : Int) else -12, S)
def opCount (what : Int) : Op := fun S => (if what = 0 then (S.1.length : Int) else if what = 1 then (S.2.1.length : Int) else if what = 2 then (S.2.2.2.1.2 : Int) else if what = 3 then (S.2.2.2.2.1.1.length : Int) else if what = 4 then (S.2.2.2.2.1.2.length : Int) else -1, S)
def CTp (T : List Int) (I : KI) : Prop := I 0 1 = (T.length : Int) ∧ T.length ≤ 120 ∧ ∀ k : Nat, k < T.length → I 1 (k : Int) = fw8 T k
/-- the class's cells hold a state -/
def CRep (xs : KS) (S : St) (I : KI) : Prop := CPs xs S.1 I ∧ CTp S.2.1 I ∧ CTxt (fw8 S.2.2.1) S.2.2.1.length I ∧ CChg S.2.2.2.1.1 S.2.2.2.1.2 I ∧ CLie S.2.2.2.2.1.1 S.2.2.2.2.1.2 I ∧ CShs S.2.2.2.2.2 I ∧ CKnw xs I
def hif (I I' : KI) : Prop := ∀ a k, 101 ≤ a → I' a k = I a k
