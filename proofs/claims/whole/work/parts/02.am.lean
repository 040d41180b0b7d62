/-! A small machine over whole numbers: what a method's bytecode does, without the real one's threads, tables, addresses. A value: an int, a long, a reference (a number of a cell; -1: null; below: a text or the script). -/
abbrev am_V : Type := Int ⊕ Int ⊕ Int
abbrev am_Lv : Type := List (Option am_V)
abbrev am_St : Type := List am_V
/-- cells, slots, (kind, length) of a cell, contents -/
abbrev am_H : Type := Nat × Nat × (Nat → Nat × Nat) × (Nat → Nat → Int)
abbrev vI (x : Int) : am_V := .inl x
abbrev vL (x : Int) : am_V := .inr (.inl x)
abbrev vR (x : Int) : am_V := .inr (.inr x)
def am_w (x : Int) : Int := Int.bmod x 4294967296
def am_W (x : Int) : Int := Int.bmod x 18446744073709551616
abbrev am_F : Type := am_Lv → am_St → am_H → Option (Nat × am_Lv × am_St × am_H)
abbrev am_Op : Type := am_F ⊕ (am_St → Option (Option am_V)) ⊕ (Nat × (am_St → am_H → Option (List am_V × am_St)) × Nat)
abbrev am_P : Type := (Nat → Nat → am_Op) × (Nat → Nat)
def am_cat : am_V → Nat
  | .inr (.inl _) => 2
  | _ => 1
def am_put (h : am_H) (a i : Nat) (x : Int) : am_H := (h.1, h.2.1, h.2.2.1, fun b j => if b = a ∧ j = i then x else h.2.2.2 b j)
def am_mk (h : am_H) (kind len : Nat) (z : Nat → Int) : am_H := (h.1 + 1, h.2.1 + len, (fun b => if b = h.1 then (kind, len) else h.2.2.1 b), fun b j => if b = h.1 then z j else h.2.2.2 b j)
abbrev am_isO (h : am_H) (a : Int) (c : Nat) : Prop := 0 ≤ a ∧ (h.2.2.1 a.toNat).1 = c + 10
abbrev am_inA (h : am_H) (a : Int) (t : Nat) (i : Int) : Prop := 0 ≤ a ∧ (h.2.2.1 a.toNat).1 = t ∧ 0 ≤ i ∧ i < ((h.2.2.1 a.toNat).2 : Int)
abbrev am_rd (h : am_H) (a : Int) (i : Int) : Int := h.2.2.2 a.toNat i.toNat
-- the locals
def am_cl (lv : am_Lv) (i : Nat) : am_Lv := match i with
  | 0 => lv
  | j + 1 => match lv[j]? with
    | some (some (.inr (.inl _))) => lv.set j none
    | _ => lv
def am_sto (lv : am_Lv) (i : Nat) (v : am_V) : am_Lv := (am_cl lv i).set i (some v)
def am_stoL (lv : am_Lv) (i : Nat) (v : am_V) : am_Lv := ((am_cl lv i).set i (some v)).set (i + 1) none
def am_sl : List am_V → am_Lv
  | [] => []
  | .inr (.inl x) :: vs => some (.inr (.inl x)) :: none :: am_sl vs
  | v :: vs => some v :: am_sl vs
def am_entry (n : Nat) (vs : List am_V) : am_Lv := am_sl vs ++ List.replicate (n - (am_sl vs).length) none
-- the operations that go on
def o_push (v : am_V) (nx : Nat) : am_F := fun lv st h => some (nx, lv, v :: st, h)
def o_iload (i nx : Nat) : am_F := fun lv st h => match lv[i]? with
  | some (some (.inl x)) => some (nx, lv, .inl x :: st, h)
  | _ => none
def o_lload (i nx : Nat) : am_F := fun lv st h => match lv[i]? with
  | some (some (.inr (.inl x))) => some (nx, lv, .inr (.inl x) :: st, h)
  | _ => none
def o_aload (i nx : Nat) : am_F := fun lv st h => match lv[i]? with
  | some (some (.inr (.inr x))) => some (nx, lv, .inr (.inr x) :: st, h)
  | _ => none
def o_istore (i nx : Nat) : am_F := fun lv st h => match st with
  | .inl x :: r => if i < lv.length then some (nx, am_sto lv i (.inl x), r, h) else none
  | _ => none
def o_astore (i nx : Nat) : am_F := fun lv st h => match st with
  | .inr (.inr x) :: r => if i < lv.length then some (nx, am_sto lv i (.inr (.inr x)), r, h) else none
  | _ => none
def o_lstore (i nx : Nat) : am_F := fun lv st h => match st with
  | .inr (.inl x) :: r => if i + 1 < lv.length then some (nx, am_stoL lv i (.inr (.inl x)), r, h) else none
  | _ => none
def o_iinc (i : Nat) (n : Int) (nx : Nat) : am_F := fun lv st h => match lv[i]? with
  | some (some (.inl x)) => some (nx, am_sto lv i (.inl (am_w (x + n))), st, h)
  | _ => none
def o_i2 (f : Int → Int → Int) (nx : Nat) : am_F := fun lv st h => match st with
  | .inl b :: .inl a :: r => some (nx, lv, .inl (f a b) :: r, h)
  | _ => none
def o_i2z (f : Int → Int → Int) (nx : Nat) : am_F := fun lv st h => match st with
  | .inl b :: .inl a :: r => if b = 0 then none else some (nx, lv, .inl (f a b) :: r, h)
  | _ => none
def o_i1 (f : Int → Int) (nx : Nat) : am_F := fun lv st h => match st with
  | .inl a :: r => some (nx, lv, .inl (f a) :: r, h)
  | _ => none
def o_l2 (f : Int → Int → Int) (nx : Nat) : am_F := fun lv st h => match st with
  | .inr (.inl b) :: .inr (.inl a) :: r => some (nx, lv, .inr (.inl (f a b)) :: r, h)
  | _ => none
def o_l2z (f : Int → Int → Int) (nx : Nat) : am_F := fun lv st h => match st with
  | .inr (.inl b) :: .inr (.inl a) :: r => if b = 0 then none else some (nx, lv, .inr (.inl (f a b)) :: r, h)
  | _ => none
def o_lsh (f : Int → Int → Int) (nx : Nat) : am_F := fun lv st h => match st with
  | .inl b :: .inr (.inl a) :: r => some (nx, lv, .inr (.inl (f a b)) :: r, h)
  | _ => none
def o_lcmp (nx : Nat) : am_F := fun lv st h => match st with
  | .inr (.inl b) :: .inr (.inl a) :: r => some (nx, lv, .inl (if a < b then -1 else if a = b then 0 else 1) :: r, h)
  | _ => none
def o_i2l (nx : Nat) : am_F := fun lv st h => match st with
  | .inl a :: r => some (nx, lv, .inr (.inl a) :: r, h)
  | _ => none
def o_l2i (nx : Nat) : am_F := fun lv st h => match st with
  | .inr (.inl a) :: r => some (nx, lv, .inl (am_w a) :: r, h)
  | _ => none
def o_dup (nx : Nat) : am_F := fun lv st h => match st with
  | .inl x :: r => some (nx, lv, .inl x :: .inl x :: r, h)
  | .inr (.inr x) :: r => some (nx, lv, .inr (.inr x) :: .inr (.inr x) :: r, h)
  | _ => none
def o_dup2 (nx : Nat) : am_F := fun lv st h => match st with
  | .inr (.inl x) :: r => some (nx, lv, .inr (.inl x) :: .inr (.inl x) :: r, h)
  | .inl b :: .inr (.inr a) :: r => some (nx, lv, .inl b :: .inr (.inr a) :: .inl b :: .inr (.inr a) :: r, h)
  | _ => none
def o_pop (nx : Nat) : am_F := fun lv st h => match st with
  | .inl _ :: r => some (nx, lv, r, h)
  | .inr (.inr _) :: r => some (nx, lv, r, h)
  | _ => none
def o_pop2 (nx : Nat) : am_F := fun lv st h => match st with
  | .inr (.inl _) :: r => some (nx, lv, r, h)
  | _ => none
def o_if (c : Int → Bool) (tgt nx : Nat) : am_F := fun lv st h => match st with
  | .inl x :: r => some ((if c x = true then tgt else nx), lv, r, h)
  | _ => none
def o_ic (c : Int → Int → Bool) (tgt nx : Nat) : am_F := fun lv st h => match st with
  | .inl y :: .inl x :: r => some ((if c x y = true then tgt else nx), lv, r, h)
  | _ => none
def o_ifnn (tgt nx : Nat) : am_F := fun lv st h => match st with
  | .inr (.inr x) :: r => if x = -1 then some (nx, lv, r, h) else if 0 ≤ x then some (tgt, lv, r, h) else none
  | _ => none
def o_goto (tgt : Nat) : am_F := fun lv st h => some (tgt, lv, st, h)
def o_tsw (f : Int → Nat) : am_F := fun lv st h => match st with
  | .inl x :: r => some (f x, lv, r, h)
  | _ => none
def o_getI (c k nx : Nat) : am_F := fun lv st h => match st with
  | .inr (.inr a) :: r => if am_isO h a c then some (nx, lv, .inl (h.2.2.2 a.toNat k) :: r, h) else none
  | _ => none
def o_getL (c k nx : Nat) : am_F := fun lv st h => match st with
  | .inr (.inr a) :: r => if am_isO h a c then some (nx, lv, .inr (.inl (h.2.2.2 a.toNat k)) :: r, h) else none
  | _ => none
def o_getR (c k nx : Nat) : am_F := fun lv st h => match st with
  | .inr (.inr a) :: r => if am_isO h a c then some (nx, lv, .inr (.inr (h.2.2.2 a.toNat k)) :: r, h) else none
  | _ => none
def o_putI (c k nx : Nat) : am_F := fun lv st h => match st with
  | .inl x :: .inr (.inr a) :: r => if am_isO h a c then some (nx, lv, r, am_put h a.toNat k x) else none
  | _ => none
def o_putZ (c k nx : Nat) : am_F := fun lv st h => match st with
  | .inl x :: .inr (.inr a) :: r => if am_isO h a c ∧ (x = 0 ∨ x = 1) then some (nx, lv, r, am_put h a.toNat k x) else none
  | _ => none
def o_putL (c k nx : Nat) : am_F := fun lv st h => match st with
  | .inr (.inl x) :: .inr (.inr a) :: r => if am_isO h a c then some (nx, lv, r, am_put h a.toNat k x) else none
  | _ => none
def o_putR (c k nx : Nat) : am_F := fun lv st h => match st with
  | .inr (.inr x) :: .inr (.inr a) :: r => if am_isO h a c ∧ -1 ≤ x then some (nx, lv, r, am_put h a.toNat k x) else none
  | _ => none
def o_iald (nx : Nat) : am_F := fun lv st h => match st with
  | .inl i :: .inr (.inr a) :: r => if am_inA h a 1 i then some (nx, lv, .inl (am_rd h a i) :: r, h) else none
  | _ => none
def o_lald (nx : Nat) : am_F := fun lv st h => match st with
  | .inl i :: .inr (.inr a) :: r => if am_inA h a 2 i then some (nx, lv, .inr (.inl (am_rd h a i)) :: r, h) else none
  | _ => none
def o_bald (nx : Nat) : am_F := fun lv st h => match st with
  | .inl i :: .inr (.inr a) :: r => if am_inA h a 3 i then some (nx, lv, .inl (am_rd h a i) :: r, h) else none
  | _ => none
def o_zald (nx : Nat) : am_F := fun lv st h => match st with
  | .inl i :: .inr (.inr a) :: r => if am_inA h a 4 i then some (nx, lv, .inl (am_rd h a i) :: r, h) else none
  | _ => none
def o_aald (t nx : Nat) : am_F := fun lv st h => match st with
  | .inl i :: .inr (.inr a) :: r => if am_inA h a t i then some (nx, lv, .inr (.inr (am_rd h a i)) :: r, h) else none
  | _ => none
def o_iast (nx : Nat) : am_F := fun lv st h => match st with
  | .inl x :: .inl i :: .inr (.inr a) :: r => if am_inA h a 1 i then some (nx, lv, r, am_put h a.toNat i.toNat x) else none
  | _ => none
def o_last (nx : Nat) : am_F := fun lv st h => match st with
  | .inr (.inl x) :: .inl i :: .inr (.inr a) :: r => if am_inA h a 2 i then some (nx, lv, r, am_put h a.toNat i.toNat x) else none
  | _ => none
def o_bast (nx : Nat) : am_F := fun lv st h => match st with
  | .inl x :: .inl i :: .inr (.inr a) :: r => if am_inA h a 3 i then some (nx, lv, r, am_put h a.toNat i.toNat (Int.bmod x 256)) else none
  | _ => none
def o_zast (nx : Nat) : am_F := fun lv st h => match st with
  | .inl x :: .inl i :: .inr (.inr a) :: r => if am_inA h a 4 i ∧ (x = 0 ∨ x = 1) then some (nx, lv, r, am_put h a.toNat i.toNat x) else none
  | _ => none
def o_aast (t c nx : Nat) : am_F := fun lv st h => match st with
  | .inr (.inr x) :: .inl i :: .inr (.inr a) :: r => if am_inA h a t i ∧ am_isO h x c then some (nx, lv, r, am_put h a.toNat i.toNat x) else none
  | _ => none
def o_alen (nx : Nat) : am_F := fun lv st h => match st with
  | .inr (.inr a) :: r => if 0 ≤ a ∧ 1 ≤ (h.2.2.1 a.toNat).1 ∧ (h.2.2.1 a.toNat).1 ≤ 6 ∧ (h.2.2.1 a.toNat).2 ≤ 1000000 then some (nx, lv, .inl ((h.2.2.1 a.toNat).2 : Int) :: r, h) else none
  | _ => none
def o_new (c n : Nat) (z : Nat → Int) (nx : Nat) : am_F := fun lv st h => some (nx, lv, .inr (.inr (h.1 : Int)) :: st, am_mk h (c + 10) n z)
def o_newa (t nx : Nat) : am_F := fun lv st h => match st with
  | .inl n :: r => if 0 ≤ n ∧ n ≤ 1000000 then some (nx, lv, .inr (.inr (h.1 : Int)) :: r, am_mk h t n.toNat (fun _ => 0)) else none
  | _ => none
def o_anew (t nx : Nat) : am_F := fun lv st h => match st with
  | .inl n :: r => if 0 ≤ n ∧ n ≤ 1000000 then some (nx, lv, .inr (.inr (h.1 : Int)) :: r, am_mk h t n.toNat (fun _ => -1)) else none
  | _ => none
/-- n rows more -/
def am_rows (len : Nat) : Nat → am_H → am_H
  | 0, h => h
  | k + 1, h => am_rows len k (am_mk h 2 len (fun _ => 0))
def o_multi (nx : Nat) : am_F := fun lv st h => match st with
  | .inl n2 :: .inl n1 :: r => if 0 ≤ n1 ∧ n1 ≤ 1000 ∧ 0 ≤ n2 ∧ n2 ≤ 1000 then some (nx, lv, .inr (.inr (h.1 : Int)) :: r, am_rows n2.toNat n1.toNat (am_mk h 7 n1.toNat (fun j => ((h.1 + 1 + j : Nat) : Int)))) else none
  | _ => none
/-- copies of ints from row to row -/
def am_cpy (h : am_H) (a b sp dp n : Nat) : am_H := (h.1, h.2.1, h.2.2.1, fun c j => if c = b ∧ dp ≤ j ∧ j < dp + n then h.2.2.2 a (sp + (j - dp)) else h.2.2.2 c j)
def o_acpy (nx : Nat) : am_F := fun lv st h => match st with
  | .inl n :: .inl dp :: .inr (.inr b) :: .inl sp :: .inr (.inr a) :: r =>
    if 0 ≤ a ∧ (h.2.2.1 a.toNat).1 = 1 ∧ 0 ≤ b ∧ (h.2.2.1 b.toNat).1 = 1 ∧ a ≠ b ∧ 0 ≤ n ∧ 0 ≤ dp ∧ 0 ≤ sp ∧ sp + n ≤ ((h.2.2.1 a.toNat).2 : Int) ∧ dp + n ≤ ((h.2.2.1 b.toNat).2 : Int) ∧ (r.map am_cat).sum ≤ 8
    then some (nx, lv, r, am_cpy h a.toNat b.toNat sp.toNat dp.toNat n.toNat) else none
  | _ => none
/-- the script: its length, its numbers -/
def o_slen (L : Nat) (nx : Nat) : am_F := fun lv st h => match st with
  | .inr (.inr a) :: r => if a = -1000 then some (nx, lv, .inl (L : Int) :: r, h) else none
  | _ => none
def o_sld (L : Nat) (xs : Nat → Int) (nx : Nat) : am_F := fun lv st h => match st with
  | .inl i :: .inr (.inr a) :: r => if a = -1000 ∧ 0 ≤ i ∧ i < (L : Int) then some (nx, lv, .inl (xs i.toNat) :: r, h) else none
  | _ => none
/-- texts: text j is the reference -2 - j, the row of its bytes -500 - j -/
def o_tval (n nx : Nat) : am_F := fun lv st h => match st with
  | .inr (.inr a) :: r => if a ≤ -2 ∧ -2 - (n : Int) < a then some (nx, lv, .inr (.inr (a - 498)) :: r, h) else none
  | _ => none
def o_tcod (n nx : Nat) : am_F := fun lv st h => match st with
  | .inr (.inr a) :: r => if a ≤ -2 ∧ -2 - (n : Int) < a then some (nx, lv, .inl 0 :: r, h) else none
  | _ => none
def o_tlen (tx : List (List Int)) (nx : Nat) : am_F := fun lv st h => match st with
  | .inr (.inr a) :: r => if a ≤ -500 ∧ -500 - (tx.length : Int) < a then some (nx, lv, .inl ((tx.getD (-500 - a).toNat []).length : Int) :: r, h) else none
  | _ => none
def o_tald (tx : List (List Int)) (nx : Nat) : am_F := fun lv st h => match st with
  | .inl i :: .inr (.inr a) :: r => if a ≤ -500 ∧ -500 - (tx.length : Int) < a ∧ 0 ≤ i ∧ i < ((tx.getD (-500 - a).toNat []).length : Int) then some (nx, lv, .inl ((tx.getD (-500 - a).toNat []).getD i.toNat 0) :: r, h) else none
  | _ => none
def o_drop (c nx : Nat) : am_F := fun lv st h => match st with
  | .inr (.inr a) :: r => if am_isO h a c ∧ (r.map am_cat).sum ≤ 8 then some (nx, lv, r, h) else none
  | _ => none
def o_bad : am_F := fun _ _ _ => none
-- the ends
def o_iret : am_St → Option (Option am_V) := fun st => match st with
  | [.inl x] => some (some (.inl x))
  | _ => none
def o_zret : am_St → Option (Option am_V) := fun st => match st with
  | [.inl x] => if x = 0 ∨ x = 1 then some (some (.inl x)) else none
  | _ => none
def o_lret : am_St → Option (Option am_V) := fun st => match st with
  | [.inr (.inl x)] => some (some (.inr (.inl x)))
  | _ => none
def o_aret : am_St → Option (Option am_V) := fun st => match st with
  | [.inr (.inr x)] => if -1 ≤ x then some (some (.inr (.inr x))) else none
  | _ => none
def o_vret : am_St → Option (Option am_V) := fun st => match st with
  | [] => some none
  | _ => none
-- the calls
def o_cv (c n : Nat) : am_St → am_H → Option (List am_V × am_St) := fun st h =>
  match (st.take (n + 1)).reverse with
  | .inr (.inr a) :: as => if am_isO h a c ∧ as.length = n ∧ ((st.drop (n + 1)).map am_cat).sum ≤ 8 then some (.inr (.inr a) :: as, st.drop (n + 1)) else none
  | _ => none
/-- a call on a text -/
def o_ct (tl n : Nat) : am_St → am_H → Option (List am_V × am_St) := fun st _ =>
  match (st.take (n + 1)).reverse with
  | .inr (.inr a) :: as => if a ≤ -2 ∧ -2 - (tl : Int) < a ∧ as.length = n ∧ ((st.drop (n + 1)).map am_cat).sum ≤ 8 then some (.inr (.inr a) :: as, st.drop (n + 1)) else none
  | _ => none
def o_cs (n : Nat) : am_St → am_H → Option (List am_V × am_St) := fun st _ =>
  if n ≤ st.length ∧ ((st.drop n).map am_cat).sum ≤ 8 then some ((st.take n).reverse, st.drop n) else none
-- the run: fuel, how deep calls may go
def am_run (P : am_P) : Nat → Nat → Nat → Nat → am_Lv → am_St → am_H → Option (Option am_V × am_H)
  | 0, _, _, _, _, _, _ => none
  | n + 1, d, f, pc, lv, st, h => match P.1 f pc with
    | .inl F => match F lv st h with
      | none => none
      | some (pc', lv', st', h') => am_run P n d f pc' lv' st' h'
    | .inr (.inl F) => match F st with
      | none => none
      | some v => some (v, h)
    | .inr (.inr (g, F, nx)) => match F st h with
      | none => none
      | some (as, st') => match d with
        | 0 => none
        | d' + 1 => if (am_sl as).length ≤ P.2 g then (match am_run P n d' g 0 (am_entry (P.2 g) as) [] h with
          | none => none
          | some (v, h1) => am_run P n (d' + 1) f nx lv (v.toList ++ st') h1) else none
/-- the run from here comes to an end of which Q holds -/
def am_R (P : am_P) (d f pc : Nat) (lv : am_Lv) (st : am_St) (h : am_H) (Q : Option am_V → am_H → Prop) : Prop := ∃ n r h', am_run P n d f pc lv st h = some (r, h') ∧ Q r h'
theorem am_run_succ {P : am_P} : ∀ (n d f pc : Nat) (lv : am_Lv) (st : am_St) (h : am_H) (x : Option am_V × am_H), am_run P n d f pc lv st h = some x → am_run P (n + 1) d f pc lv st h = some x := by
  intro n
  induction n with
  | zero => intro d f pc lv st h x hx; simp [am_run] at hx
  | succ n ih =>
    intro d f pc lv st h x hx
    rw [am_run] at hx ⊢
    cases hc : P.1 f pc with
    | inl F =>
      simp only [hc] at hx ⊢
      cases hF : F lv st h with
      | none => simp [hF] at hx
      | some q =>
        obtain ⟨pc', lv', st', h'⟩ := q
        simp only [hF] at hx ⊢
        exact ih _ _ _ _ _ _ _ hx
    | inr y =>
      cases y with
      | inl F => simp only [hc] at hx ⊢; exact hx
      | inr z =>
        obtain ⟨g, F, nx⟩ := z
        simp only [hc] at hx ⊢
        cases hF : F st h with
        | none => simp [hF] at hx
        | some q =>
          obtain ⟨as, st'⟩ := q
          simp only [hF] at hx ⊢
          cases d with
          | zero => simp at hx
          | succ d' =>
            simp only at hx ⊢
            by_cases hl : (am_sl as).length ≤ P.2 g
            · rw [if_pos hl] at hx ⊢
              cases hr : am_run P n d' g 0 (am_entry (P.2 g) as) [] h with
              | none => simp [hr] at hx
              | some q2 =>
                obtain ⟨v, h1⟩ := q2
                simp only [hr] at hx
                simp only [ih _ _ _ _ _ _ _ hr]
                exact ih _ _ _ _ _ _ _ hx
            · rw [if_neg hl] at hx
              cases hx
theorem am_run_le {P : am_P} {n k d f pc : Nat} {lv : am_Lv} {st : am_St} {h : am_H} {x : Option am_V × am_H} (hk : n ≤ k) (hx : am_run P n d f pc lv st h = some x) : am_run P k d f pc lv st h = some x := by
  induction hk with
  | refl => exact hx
  | step _ ih => exact am_run_succ _ _ _ _ _ _ _ _ ih
theorem am_run_deep {P : am_P} : ∀ (n d f pc : Nat) (lv : am_Lv) (st : am_St) (h : am_H) (x : Option am_V × am_H), am_run P n d f pc lv st h = some x → am_run P n (d + 1) f pc lv st h = some x := by
  intro n
  induction n with
  | zero => intro d f pc lv st h x hx; simp [am_run] at hx
  | succ n ih =>
    intro d f pc lv st h x hx
    rw [am_run] at hx ⊢
    cases hc : P.1 f pc with
    | inl F =>
      simp only [hc] at hx ⊢
      cases hF : F lv st h with
      | none => simp [hF] at hx
      | some q =>
        obtain ⟨pc', lv', st', h'⟩ := q
        simp only [hF] at hx ⊢
        exact ih _ _ _ _ _ _ _ hx
    | inr y =>
      cases y with
      | inl F => simp only [hc] at hx ⊢; exact hx
      | inr z =>
        obtain ⟨g, F, nx⟩ := z
        simp only [hc] at hx ⊢
        cases hF : F st h with
        | none => simp [hF] at hx
        | some q =>
          obtain ⟨as, st'⟩ := q
          simp only [hF] at hx ⊢
          cases d with
          | zero => simp at hx
          | succ d' =>
            simp only at hx ⊢
            by_cases hl : (am_sl as).length ≤ P.2 g
            · rw [if_pos hl] at hx ⊢
              cases hr : am_run P n d' g 0 (am_entry (P.2 g) as) [] h with
              | none => simp [hr] at hx
              | some q2 =>
                obtain ⟨v, h1⟩ := q2
                simp only [hr] at hx
                simp only [ih _ _ _ _ _ _ _ hr]
                exact ih _ _ _ _ _ _ _ hx
            · rw [if_neg hl] at hx
              cases hx
section AMR
variable {P : am_P} {d f pc : Nat} {lv : am_Lv} {st : am_St} {h : am_H} {Q : Option am_V → am_H → Prop}
theorem am_R.deep (k : am_R P d f pc lv st h Q) : am_R P (d + 1) f pc lv st h Q := by
  obtain ⟨n, r, h', e, q⟩ := k
  exact ⟨n, r, h', am_run_deep _ _ _ _ _ _ _ _ e, q⟩
theorem am_R.to {e : Nat} (hd : d ≤ e) (k : am_R P d f pc lv st h Q) : am_R P e f pc lv st h Q := by
  induction hd with
  | refl => exact k
  | step _ ih => exact ih.deep
theorem am_R.post {Q2 : Option am_V → am_H → Prop} (k : am_R P d f pc lv st h Q) (hq : ∀ r t, Q r t → Q2 r t) : am_R P d f pc lv st h Q2 := by
  obtain ⟨n, r, h', e, q⟩ := k
  exact ⟨n, r, h', e, hq _ _ q⟩
theorem am_R.next {F : am_F} (hc : P.1 f pc = .inl F) {pc' : Nat} {lv' : am_Lv} {st' : am_St} {h' : am_H} (hF : F lv st h = some (pc', lv', st', h')) (k : am_R P d f pc' lv' st' h' Q) : am_R P d f pc lv st h Q := by
  obtain ⟨n, r, h2, e, q⟩ := k
  refine ⟨n + 1, r, h2, ?_, q⟩
  rw [am_run]
  simp only [hc, hF]
  exact e
theorem am_R.ret {F : am_St → Option (Option am_V)} (hc : P.1 f pc = .inr (.inl F)) {v : Option am_V} (hF : F st = some v) (q : Q v h) : am_R P d f pc lv st h Q := by
  refine ⟨1, v, h, ?_, q⟩
  rw [am_run]
  simp only [hc, hF]
theorem am_R.call {g nx : Nat} {F : am_St → am_H → Option (List am_V × am_St)} (hc : P.1 f pc = .inr (.inr (g, F, nx))) {as : List am_V} {st' : am_St} (hF : F st h = some (as, st')) (hl : (am_sl as).length ≤ P.2 g)
    (k : am_R P d g 0 (am_entry (P.2 g) as) [] h (fun v h1 => am_R P (d + 1) f nx lv (v.toList ++ st') h1 Q)) : am_R P (d + 1) f pc lv st h Q := by
  obtain ⟨n, v, h1, e, n2, r, h2, e2, q⟩ := k
  refine ⟨max n n2 + 1, r, h2, ?_, q⟩
  rw [am_run]
  simp only [hc, hF, if_pos hl, am_run_le (Nat.le_max_left n n2) e]
  exact am_run_le (Nat.le_max_right n n2) e2
end AMR
