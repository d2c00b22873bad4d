/-! RULES: what they ask of symbols, as functions; ways as bits. -/
/-- a rule: kind (the class's number), number, cells -/
abbrev PR : Type := Int × Int × List Int
/-- a puzzle: width, height, symbols, rules, givens of nine cells (-1: none) -/
abbrev PZ : Type := Int × Int × Int × List PR × List Int
def adA (P : Int → Int → Bool) : List Int → Bool
  | [] => true
  | [_] => true
  | a :: b :: t => P a b && adA P (b :: t)
def cnF (l : List Int) : Int := ((l.filter (fun x => decide (x = l.headD 0))).length : Nat)
def seN : Int → List Int → Int
  | _, [] => 0
  | h, x :: t => if h < x then 1 + seN x t else seN h t
/-- places of ones as bits -/
def onB : List Int → Nat
  | [] => 0
  | x :: t => (if x = 1 then 1 else 0) + 2 * onB t
/-- cells beside each other in a grid of width w -/
def bes (w a b : Int) : Bool := decide ((a % w - b % w) * (a % w - b % w) + (a / w - b / w) * (a / w - b / w) = 1)
/-- of a rule's cell the cells beside it, as bits of their places -/
def lnB (w : Int) (l : List Int) (i : Nat) : Nat := if i < l.length then onB (l.map fun c => if bes w (l.getD i 0) c then 1 else 0) else 0
def hgP (b : Nat → Nat) (set r : Nat) : Nat := (List.range 4).foldl (fun r i => if r.testBit i then r ||| (b i &&& set) else r) r
/-- whether the places of a set hang together -/
def hgs (b : Nat → Nat) (set : Nat) : Bool := hgP b set (hgP b set (hgP b set (set &&& (16 - set)))) == set
/-- whether symbols meet a rule -/
def met (w : Int) (R : PR) (x : List Int) : Bool :=
  if R.1 = 0 then decide (cnF x = x.length) else if R.1 = 1 then adA (fun a b => decide (R.2.1 ≤ b - a ∨ R.2.1 ≤ a - b)) x else if R.1 = 2 then decide (cnF x = R.2.1) else if R.1 = 3 then hgs (lnB w R.2.2) (onB x) else if R.1 = 4 then adA (fun a b => decide (a < b)) x else if R.1 = 5 then decide (seN (-1) x = R.2.1) else if R.1 = 6 then decide (x.sum = R.2.1) else decide x.Nodup
/-- the symbols of a way -/
def wyx (n way : Nat) : List Int := (List.range n).map fun i => ((way / 4 ^ i % 4 : Nat) : Int)
/-- a bit of a long -/
def lbit (v : Int) (i : Nat) : Bool := (v % 18446744073709551616).toNat.testBit i
/-- v is the j-th long of a rule's ways -/
def wy_ok (w s : Int) (R : PR) (j : Nat) (v : Int) : Prop := fx_in64 v ∧ ∀ i : Nat, i < 64 → lbit v i = (decide (i + 64 * j < 4 ^ R.2.2.length) && (wyx R.2.2.length (i + 64 * j)).all (fun x => decide (x < s)) && met w R (wyx R.2.2.length (i + 64 * j)))
/-- the ways of the rules that are known -/
def wys (M : fx_M) (p : Nat) (Z : PZ) : Prop := ∀ (r : Nat) (R : PR), Z.2.2.2.1[r]? = some R → (r : Int) < M p 12 → ∀ j : Nat, j < 4 → wy_ok Z.1 Z.2.2.1 R j (M (p + 7) (4 * (r : Int) + j))
theorem wys_fr {M N : fx_M} {p : Nat} {Z : PZ} (h : wys M p Z) (h12 : N p 12 = M p 12) (h7 : ∀ j : Int, N (p + 7) j = M (p + 7) j) : wys N p Z := fun r R hR hr j hj => by
  rw [h7]
  exact h r R hR (by rw [← h12]; exact hr) j hj
