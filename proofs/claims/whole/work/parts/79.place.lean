/-! orders of the beds -/
def swpL (l : List Nat) (i j : Nat) : List Nat := (l.set i (l.getD j 0)).set j (l.getD i 0)
def turnL (l : List Nat) : Nat → Nat
  | 0 => 0
  | k + 1 => if l.getD (k + 1) 0 < l.getD k 0 then turnL l k else k + 1
def withL (l : List Nat) (t : Nat) : Nat → Nat
  | 0 => 0
  | k + 1 => if k + 1 ≤ t then k + 1 else if l.getD (k + 1) 0 < l.getD t 0 then withL l t k else k + 1
def revL : Nat → List Nat → Nat → Nat → List Nat
  | 0, l, _, _ => l
  | k + 1, l, x, y => if x < y then revL k (swpL l x y) (x + 1) (y - 1) else l
def nextL (l : List Nat) : Option (List Nat) := if turnL l (l.length - 1) = 0 then none else some (revL 6 (swpL l (turnL l (l.length - 1) - 1) (withL l (turnL l (l.length - 1) - 1) (l.length - 1))) (turnL l (l.length - 1)) (l.length - 1))
def itL : Nat → List Nat → List (List Nat)
  | 0, _ => []
  | k + 1, l => l :: (match nextL l with
    | none => []
    | some l2 => itL k l2)
def prL (S : List Nat) : Nat → List Nat → List (List Nat)
  | 0, pre => [pre]
  | m + 1, pre => S.flatMap (fun b => if pre.elem b = true then [] else prL S m (pre ++ [b]))
def selL (b0 b1 b2 b3 b4 b5 : Bool) : List Nat := (if b0 then [0] else []) ++ ((if b1 then [1] else []) ++ ((if b2 then [2] else []) ++ ((if b3 then [3] else []) ++ ((if b4 then [4] else []) ++ (if b5 then [5] else [])))))
theorem pr_it6 : ∀ b0 b1 b2 b3 b4 b5 : Bool, prL (selL b0 b1 b2 b3 b4 b5) (selL b0 b1 b2 b3 b4 b5).length [] = itL 720 (selL b0 b1 b2 b3 b4 b5) := by decide +kernel
