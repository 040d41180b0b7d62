/-! laws: what a row of the reference's codes says -/
def clampE (v : Int) : Int := if 1000000 < v then 1000000 else if v < -1000000 then -1000000 else v
/-- two numbers brought together: 0 plus, 1 minus, 2 times, 3 like, 4 less, 5 more, 7 and, else or -/
def bop (op x y : Int) : Int :=
  if op = 0 then clampE (x + y) else if op = 1 then clampE (x - y) else if op = 2 then clampE (x * y)
  else if op = 3 then (if x = y then 1 else 0) else if op = 4 then (if x < y then 1 else 0) else if op = 5 then (if x ≤ y then 0 else 1)
  else if op = 7 then (if x ≠ 0 ∧ y ≠ 0 then 1 else 0) else (if x ≠ 0 ∨ y ≠ 0 then 1 else 0)
theorem clamp_b (v : Int) : -1000000 ≤ clampE v ∧ clampE v ≤ 1000000 := by
  unfold clampE
  split
  · omega
  · split <;> omega
def wb (x : Int) : Prop := -1000000 ≤ x ∧ x ≤ 1000000
theorem bop_b (op x y : Int) : wb (bop op x y) := by
  unfold bop wb
  repeat' split
  all_goals first | exact clamp_b _ | omega
/-- a code of the reference over a stack; the last one on top -/
def stepR (w : Nat → Int) (c : Int) (s : List Int) : Option (List Int) :=
  if c < 3000 then (if c < 1000 then (if 0 ≤ c then some (c :: s) else none) else if c < 1007 then some (w (c - 1000).toNat :: s) else none)
  else if c = 3006 then (match s with
    | a :: t => if a = 0 ∨ a = 1 then some ((1 - a) :: t) else none
    | _ => none)
  else if c = 3009 then (match s with
    | b :: a :: q :: t => some ((if q = 1 then a else b) :: t)
    | _ => none)
  else if c = 3007 ∨ c = 3008 then (match s with
    | b :: a :: t => if (a = 0 ∨ a = 1) ∧ (b = 0 ∨ b = 1) then some (bop (c - 3000) a b :: t) else none
    | _ => none)
  else if c < 3006 then (match s with
    | b :: a :: t => some (bop (c - 3000) a b :: t)
    | _ => none)
  else none
def runR (w : Nat → Int) : List Int → List Int → Option (List Int)
  | [], s => some s
  | c :: cs, s => match stepR w c s with
    | some t => runR w cs t
    | none => none
theorem runR_app (w : Nat → Int) : ∀ (x y s : List Int), runR w (x ++ y) s = (match runR w x s with
    | some t => runR w y t
    | none => none) := by
  intro x
  induction x with
  | nil => intro y s; rfl
  | cons c cs ih =>
    intro y s
    show (match stepR w c s with
      | some t => runR w (cs ++ y) t
      | none => none) = (match (match stepR w c s with
        | some t => runR w cs t
        | none => none) with
      | some t => runR w y t
      | none => none)
    cases stepR w c s with
    | none => rfl
    | some t => exact ih y t
def wdB (w : Nat → Int) : Prop := ∀ k, k < 7 → wb (w k)
