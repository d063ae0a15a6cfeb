/-! 21c: what the codes of a text give -/
def evj (ch : Nat) (x y : Int32) : Int32 := if ch = 42 then x * y else if ch = 43 then x + y else if ch = 45 then x - y else if ch = 60 then (if y ≤ x then 0 else 1) else if ch = 61 then (if ¬ x = y then 0 else 1) else (if ¬ y = 0 then x / y else 0)
def ev1 (R : Nat → Int32) (s : List Int32) (c : Nat) : Option (List Int32) :=
  if c < 10000 then some (nI c :: s) else if c < 20000 then some (R (c - 10000) :: s) else if c = 20256 then (match s with | x :: t => some (-x :: t) | [] => none) else (match s with | y :: x :: t => some (evj (c - 20000) x y :: t) | _ => none)
def evs (R : Nat → Int32) : List Nat → List Int32 → Option (List Int32)
  | [], s => some s
  | c :: cs, s => (ev1 R s c).bind (evs R cs)
def okc (cs : List Nat) : Prop := ∀ x, x ∈ cs → x < 10008 ∨ (20000 ≤ x ∧ x ≤ 20256)
