/-! one step of the small machine is one of the real one -/
def am_TX : List (String × Nat × String) := [("SnorePlay$Tokens", 57, ";:+-*()[]=<>"), ("SnorePlay$Reader", 55, "house"), ("SnorePlay$Reader", 61, "beds"), ("SnorePlay$Reader", 69, "sounds"), ("SnorePlay$Reader", 73, "acts"), ("SnorePlay$Reader", 77, ";"), ("SnorePlay$Reader", 82, "sleeper"), ("SnorePlay$Reader", 131, "bed"), ("SnorePlay$Reader", 143, "dream"), ("SnorePlay$Reader", 91, "opens"), ("SnorePlay$Reader", 102, "sound"), ("SnorePlay$Reader", 107, "turns"), ("SnorePlay$Reader", 112, "hush"), ("SnorePlay$Reader", 116, "answers"), ("SnorePlay$Reader", 151, ":"), ("SnorePlay$Reader", 193, "who"), ("SnorePlay$Reader", 195, "last"), ("SnorePlay$Reader", 197, "far"), ("SnorePlay$Reader", 199, "act"), ("SnorePlay$Reader", 181, "("), ("SnorePlay$Reader", 186, ")"), ("SnorePlay$Reader", 188, "if"), ("SnorePlay$Reader", 223, "not"), ("SnorePlay$Reader", 225, "["), ("SnorePlay$Reader", 227, "]"), ("SnorePlay$Reader", 232, "="), ("SnorePlay$Reader", 234, "<"), ("SnorePlay$Reader", 236, ">"), ("SnorePlay$Reader", 221, "and"), ("SnorePlay$Reader", 216, "or"), ("SnorePlay$Reader", 204, "then"), ("SnorePlay$Reader", 206, "else"), ("SnorePlay$Reader", 211, "end"), ("SnorePlay$Reader", 168, "*"), ("SnorePlay$Reader", 173, "+"), ("SnorePlay$Reader", 175, "-"), ("SnorePlay$Reader", 124, "says"), ("SnorePlayModel", 98, " house beds sounds acts sleeper bed dream opens sound turns hush answers says if then else end who last far act and or not "), ("SnorePlayModel", 136, ";:+-*()[]=<>")]
def am_tx : List (List Int) := am_TX.map (fun q => q.2.2.toList.map (fun c => (c.toNat : Int)))
/-- what the tables say, of a state -/
def am_T (E : am_E) (U : State) : Prop :=
  E.2.2.2.1.size = E.2.2.1 ∧ (∀ w ∈ am_tb, ∀ a : Array Value, w.before a U = true) ∧ va_K E.1 am_cl_ (am_tys E) U ∧
  (∀ (j : Nat) (q : String × Nat × String), am_TX[j]? = some q → ∃ ad, E.2.2.2.2.1 j = some ad ∧ vk_R q.1 q.2.1 q.2.2 ad U) ∧
  (∀ j : Nat, j < am_tx.length → ∃ ad v, E.2.2.2.2.1 j = some ad ∧ E.2.2.2.2.1 (498 + j) = some v ∧ va_O "java/lang/String" ad (am_A E) U E.2.2.2.1 ∧ va_OF "java/lang/String" "coder" "B" (.int 0) ad (am_A E) U E.2.2.2.1 ∧ va_OF "java/lang/String" "value" "[B" (.ref v) ad (am_A E) U E.2.2.2.1 ∧ va_T .byte v (am_tx.getD j []).length (fun i => .int (Int32.ofInt ((am_tx.getD j []).getD i 0))) (am_A E) U E.2.2.2.1) ∧
  (va_Z "java/lang/String" "COMPACT_STRINGS" "Z" (.int 1) (am_A E) U E.2.2.2.1 ∧ va_Z "jdk/internal/util/Preconditions" "SIOOBE_FORMATTER" "Ljava/util/function/BiFunction;" (va_rf (E.2.2.2.2.1 898)) (am_A E) U E.2.2.2.1) ∧
  (∃ b, E.2.2.2.2.1 998 = some b ∧ b < E.2.2.1 ∧ va_X b E.2.2.2.2.2.1 (fun i => Int32.ofInt (E.2.2.2.2.2.2 i)) U E.2.2.2.1)
def am_Low (E : am_E) (H : Heap) : Prop := E.2.2.1 ≤ H.size ∧ ∀ q : Nat, q < E.2.2.1 → H[q]? = E.2.2.2.1[q]?
def am_X (E : am_E) (cc : ByteArray) (own : String) (ret : Option FieldType) (nL : Nat) (nm : String) (p : Program) (s : State) (m : MethodId) (meth : Method) (c : Code) : Prop :=
  p.tables.exec = Jvm.exec ∧ c.code = cc ∧ c.maxLocals = nL ∧ s.vm.findClass own = some m.cls ∧ meth.sig.returnType = ret ∧ meth.locks = false ∧ meth.name = nm ∧ am_T E s ∧ am_Low E s.heap
def am_ok (lv : am_Lv) (st : am_St) (h : am_H) : Prop := (∀ v ∈ st, am_vr v) ∧ (∀ (i : Nat) (v : am_V), lv[i]? = some (some v) → am_vr v) ∧ am_hr h ∧ am_kd h
def am_G (p : Program) (l : Launch) (e : Env) (R : Room) (s : State) (m : MethodId) (args : Array Value) (below : List Frame) (meth : Method) (c : Code) (Q : State → Prop) (E : am_E) (nL n0 s0 : Nat) (pc : Nat) (lv : am_Lv) (st : am_St) (h : am_H) : Prop :=
  ∀ (H : Heap) (locs : List Loc) (ls : Array Slot), am_HR E h H → am_LR E nL ls lv → va_S (am_A E) s.heap H locs → W p l e R s m args below meth c H locs (h.1 - n0) (h.2.1 - s0) Q (F0 m pc ls (st.map (am_cv E)))
def am_Sn (cc : ByteArray) (own : String) (ret : Option FieldType) (nL : Nat) (nm : String) (scr : Nat × (Nat → Int)) (pc : Nat) (F : am_F) : Prop :=
  ∀ (p : Program) (l : Launch) (e : Env) (R : Room) (s : State) (m : MethodId) (args : Array Value) (below : List Frame) (meth : Method) (c : Code) (Q : State → Prop) (E : am_E) (n0 s0 : Nat), E.2.2.2.2.2 = scr → am_X E cc own ret nL nm p s m meth c →
  ∀ (lv : am_Lv) (st : am_St) (h : am_H) (pc' : Nat) (lv' : am_Lv) (st' : am_St) (h' : am_H), F lv st h = some (pc', lv', st', h') → am_ok lv st h → (n0 ≤ h.1 ∧ s0 ≤ h.2.1 ∧ h'.1 - n0 ≤ R.cells ∧ h'.2.1 - s0 ≤ R.slots ∧ 1 ≤ R.frames ∧ 40 ≤ R.locals ∧ s.heap.size = E.2.2.1 + n0) →
  am_G p l e R s m args below meth c Q E nL n0 s0 pc' lv' st' h' → am_G p l e R s m args below meth c Q E nL n0 s0 pc lv st h
/-- locals of which more is known -/
def am_le (lv lv' : am_Lv) : Prop := lv.length = lv'.length ∧ ∀ (i : Nat) (v : am_V), lv[i]? = some (some v) → lv'[i]? = some (some v)
/-- an operation keeps what is so of numbers, and does the same where more is known -/
def am_Pv (F : am_F) : Prop :=
  ∀ (lv : am_Lv) (st : am_St) (h : am_H) (pc' : Nat) (lv' : am_Lv) (st' : am_St) (h' : am_H), F lv st h = some (pc', lv', st', h') →
  (am_ok lv st h → am_ok lv' st' h' ∧ h.1 ≤ h'.1 ∧ h.2.1 ≤ h'.2.1) ∧ ∀ lw : am_Lv, am_le lv lw → ∃ lw' : am_Lv, F lw st h = some (pc', lw', st', h') ∧ am_le lv' lw'
section AMS
variable {cc : ByteArray} {own nm : String} {ret : Option FieldType} {nL pc : Nat} {scr : Nat × (Nat → Int)}
-- constants
theorem sn_iconst {n : Int} (hd : decode cc pc = .ok (.iconst n, 1)) : am_Sn cc own ret nL nm scr pc (o_push (.inl n) (pc + 1)) := by
  intro p l e R s m args below meth c Q E n0 s0 hscr X lv st h pc' lv' st' h' hF ok rm k H locs ls hR hL hS
  cases hF
  exact lv_iconst X.1 X.2.1 hd rfl (k H locs ls hR hL hS)
theorem sn_bipush {n : Int} (hd : decode cc pc = .ok (.bipush n, 2)) (hv : (Int8.ofInt n).toInt32 = Int32.ofInt n) : am_Sn cc own ret nL nm scr pc (o_push (.inl n) (pc + 2)) := by
  intro p l e R s m args below meth c Q E n0 s0 hscr X lv st h pc' lv' st' h' hF ok rm k H locs ls hR hL hS
  cases hF
  exact lv_bipush X.1 X.2.1 hd hv (k H locs ls hR hL hS)
theorem sn_sipush {n : Int} (hd : decode cc pc = .ok (.sipush n, 3)) (hv : (Int16.ofInt n).toInt32 = Int32.ofInt n) : am_Sn cc own ret nL nm scr pc (o_push (.inl n) (pc + 3)) := by
  intro p l e R s m args below meth c Q E n0 s0 hscr X lv st h pc' lv' st' h' hF ok rm k H locs ls hR hL hS
  cases hF
  exact lv_sipush X.1 X.2.1 hd hv (k H locs ls hR hL hS)
theorem sn_lconst {n : Fin 2} {x : Int} (hd : decode cc pc = .ok (.lconst n, 1)) (hv : Int64.ofNat (n : Nat) = Int64.ofInt x) : am_Sn cc own ret nL nm scr pc (o_push (.inr (.inl x)) (pc + 1)) := by
  intro p l e R s m args below meth c Q E n0 s0 hscr X lv st h pc' lv' st' h' hF ok rm k H locs ls hR hL hS
  cases hF
  exact lv_lconst X.1 X.2.1 hd hv (k H locs ls hR hL hS)
theorem sn_ldc {i : Nat} {v : Int32} {x : Int} (hw : Cond.constant own i v ∈ am_tb) (hd : decode cc pc = .ok (.ldc i, 2)) (hv : v = Int32.ofInt x) : am_Sn cc own ret nL nm scr pc (o_push (.inl x) (pc + 2)) := by
  intro p l e R s m args below meth c Q E n0 s0 hscr X lv st h pc' lv' st' h' hF ok rm k H locs ls hR hL hS
  cases hF
  subst hv
  obtain ⟨hx, hb, hml, hown, hr, hlk, hnm, hT, hlow⟩ := X
  exact lv_ldc hx hb hown (hT.2.1 _ hw _) hd (k H locs ls hR hL hS)
theorem sn_ldcw {i : Nat} {v : Int32} {x : Int} (hw : Cond.constant own i v ∈ am_tb) (hd : decode cc pc = .ok (.ldc_w i, 3)) (hv : v = Int32.ofInt x) : am_Sn cc own ret nL nm scr pc (o_push (.inl x) (pc + 3)) := by
  intro p l e R s m args below meth c Q E n0 s0 hscr X lv st h pc' lv' st' h' hF ok rm k H locs ls hR hL hS
  cases hF
  subst hv
  obtain ⟨hx, hb, hml, hown, hr, hlk, hnm, hT, hlow⟩ := X
  exact lv_ldcw hx hb hown (hT.2.1 _ hw _) hd (k H locs ls hR hL hS)
theorem sn_ldc2 {i : Nat} {v : Int64} {x : Int} (hw : Cond.constantLong own i v ∈ am_tb) (hd : decode cc pc = .ok (.ldc2_w i, 3)) (hv : v = Int64.ofInt x) : am_Sn cc own ret nL nm scr pc (o_push (.inr (.inl x)) (pc + 3)) := by
  intro p l e R s m args below meth c Q E n0 s0 hscr X lv st h pc' lv' st' h' hF ok rm k H locs ls hR hL hS
  cases hF
  subst hv
  obtain ⟨hx, hb, hml, hown, hr, hlk, hnm, hT, hlow⟩ := X
  exact lv_ldc2 hx hb hown (hT.2.1 _ hw _) hd (k H locs ls hR hL hS)
theorem sn_null (hd : decode cc pc = .ok (.aconst_null, 1)) : am_Sn cc own ret nL nm scr pc (o_push (.inr (.inr (-1))) (pc + 1)) := by
  intro p l e R s m args below meth c Q E n0 s0 hscr X lv st h pc' lv' st' h' hF ok rm k H locs ls hR hL hS
  cases hF
  exact lv_null X.1 X.2.1 hd (k H locs ls hR hL hS)
theorem sn_ldcS {i j : Nat} {x : Int} {tx : String} (hq : am_TX[j]? = some (own, i, tx)) (hxj : x = -2 - (j : Int)) (hd : decode cc pc = .ok (.ldc i, 2)) : am_Sn cc own ret nL nm scr pc (o_push (.inr (.inr x)) (pc + 2)) := by
  intro p l e R s m args below meth c Q E n0 s0 hscr X lv st h pc' lv' st' h' hF ok rm k H locs ls hR hL hS
  cases hF
  obtain ⟨hx, hb, hml, hown, hr, hlk, hnm, hT, hlow⟩ := X
  obtain ⟨ad, ha, hv⟩ := hT.2.2.2.1 j _ hq
  have e : am_cv E (.inr (.inr x)) = .ref ad := by
    show (if x ≤ -2 then va_rf (E.2.2.2.2.1 (-2 - x).toNat) else _) = _
    rw [if_pos (by omega), show (-2 - x).toNat = j by omega, ha]
    rfl
  have kk := k H locs ls hR hL hS
  rw [List.map_cons, e] at kk
  exact va_ldcS hx hb hown hv hd kk
-- loads
theorem sn_iload_n {i : Nat} {k : Fin 4} (hd : decode cc pc = .ok (.iload_n k, 1)) (hi : (k : Nat) = i) : am_Sn cc own ret nL nm scr pc (o_iload i (pc + 1)) := by
  intro p l e R s m args below meth c Q E n0 s0 hscr X lv st h pc' lv' st' h' hF ok rm k H locs ls hR hL hS
  unfold o_iload at hF
  split at hF
  · rename_i x hv
    cases hF
    exact lv_iload_n X.1 X.2.1 hd hi (hL.2.2.2 _ _ hv) (k H locs ls hR hL hS)
  · cases hF
theorem sn_iload {i : Nat} (hd : decode cc pc = .ok (.iload i, 2)) : am_Sn cc own ret nL nm scr pc (o_iload i (pc + 2)) := by
  intro p l e R s m args below meth c Q E n0 s0 hscr X lv st h pc' lv' st' h' hF ok rm k H locs ls hR hL hS
  unfold o_iload at hF
  split at hF
  · rename_i x hv
    cases hF
    exact lv_iload X.1 X.2.1 hd (hL.2.2.2 _ _ hv) (k H locs ls hR hL hS)
  · cases hF
theorem sn_lload_n {i : Nat} {k : Fin 4} (hd : decode cc pc = .ok (.lload_n k, 1)) (hi : (k : Nat) = i) : am_Sn cc own ret nL nm scr pc (o_lload i (pc + 1)) := by
  intro p l e R s m args below meth c Q E n0 s0 hscr X lv st h pc' lv' st' h' hF ok rm k H locs ls hR hL hS
  unfold o_lload at hF
  split at hF
  · rename_i x hv
    cases hF
    exact lv_lload_n X.1 X.2.1 hd hi (hL.2.2.2 _ _ hv) (k H locs ls hR hL hS)
  · cases hF
theorem sn_lload {i : Nat} (hd : decode cc pc = .ok (.lload i, 2)) : am_Sn cc own ret nL nm scr pc (o_lload i (pc + 2)) := by
  intro p l e R s m args below meth c Q E n0 s0 hscr X lv st h pc' lv' st' h' hF ok rm k H locs ls hR hL hS
  unfold o_lload at hF
  split at hF
  · rename_i x hv
    cases hF
    exact lv_lload X.1 X.2.1 hd (hL.2.2.2 _ _ hv) (k H locs ls hR hL hS)
  · cases hF
theorem am_cv_some {E : am_E} (x : Int) : (∃ a, am_cv E (.inr (.inr x)) = .ref a) ∨ am_cv E (.inr (.inr x)) = .null := by
  show (∃ a, (if x ≤ -2 then va_rf (E.2.2.2.2.1 (-2 - x).toNat) else va_rf (am_ro E.2.2.1 x)) = .ref a) ∨ (if x ≤ -2 then va_rf (E.2.2.2.2.1 (-2 - x).toNat) else va_rf (am_ro E.2.2.1 x)) = .null
  split
  · cases E.2.2.2.2.1 (-2 - x).toNat with
    | none => exact Or.inr rfl
    | some a => exact Or.inl ⟨a, rfl⟩
  · cases am_ro E.2.2.1 x with
    | none => exact Or.inr rfl
    | some a => exact Or.inl ⟨a, rfl⟩
theorem sn_aload_n {i : Nat} {k : Fin 4} (hd : decode cc pc = .ok (.aload_n k, 1)) (hi : (k : Nat) = i) : am_Sn cc own ret nL nm scr pc (o_aload i (pc + 1)) := by
  intro p l e R s m args below meth c Q E n0 s0 hscr X lv st h pc' lv' st' h' hF ok rm k H locs ls hR hL hS
  unfold o_aload at hF
  split at hF
  · rename_i x hv
    cases hF
    have kk := k H locs ls hR hL hS
    have hl := hL.2.2.2 _ _ hv
    rw [List.map_cons] at kk
    rcases am_cv_some (E := E) x with ⟨a, ea⟩ | ea
    · rw [ea] at hl kk
      exact lv_aload_n X.1 X.2.1 hd hi hl kk
    · rw [ea] at hl kk
      exact lv_aload_nN X.1 X.2.1 hd hi hl kk
  · cases hF
theorem sn_aload {i : Nat} (hd : decode cc pc = .ok (.aload i, 2)) : am_Sn cc own ret nL nm scr pc (o_aload i (pc + 2)) := by
  intro p l e R s m args below meth c Q E n0 s0 hscr X lv st h pc' lv' st' h' hF ok rm k H locs ls hR hL hS
  unfold o_aload at hF
  split at hF
  · rename_i x hv
    cases hF
    have kk := k H locs ls hR hL hS
    have hl := hL.2.2.2 _ _ hv
    rw [List.map_cons] at kk
    rcases am_cv_some (E := E) x with ⟨a, ea⟩ | ea
    · rw [ea] at hl kk
      exact lv_aload X.1 X.2.1 hd hl kk
    · rw [ea] at hl kk
      exact lv_aloadN X.1 X.2.1 hd hl kk
  · cases hF
-- stores
theorem sn_istore_n {i : Nat} {k : Fin 4} (hd : decode cc pc = .ok (.istore_n k, 1)) (hi : (k : Nat) = i) : am_Sn cc own ret nL nm scr pc (o_istore i (pc + 1)) := by
  intro p l e R s m args below meth c Q E n0 s0 hscr X lv st h pc' lv' st' h' hF ok rm k H locs ls hR hL hS
  unfold o_istore at hF
  split at hF
  · split at hF
    · rename_i hlt
      cases hF
      exact lv_istore_n X.1 X.2.1 hd hi hL.has (by rw [← hL.2.2.1]; exact hlt) rfl (fun ls' h' => k H locs ls' hR (hL.sto (by rw [← hL.2.2.1]; exact hlt) h') hS)
    · cases hF
  · cases hF
theorem sn_istore {i : Nat} (hd : decode cc pc = .ok (.istore i, 2)) : am_Sn cc own ret nL nm scr pc (o_istore i (pc + 2)) := by
  intro p l e R s m args below meth c Q E n0 s0 hscr X lv st h pc' lv' st' h' hF ok rm k H locs ls hR hL hS
  unfold o_istore at hF
  split at hF
  · split at hF
    · rename_i hlt
      cases hF
      exact lv_istore X.1 X.2.1 hd hL.has (by rw [← hL.2.2.1]; exact hlt) rfl (fun ls' h' => k H locs ls' hR (hL.sto (by rw [← hL.2.2.1]; exact hlt) h') hS)
    · cases hF
  · cases hF
theorem sn_lstore_n {i : Nat} {k : Fin 4} (hd : decode cc pc = .ok (.lstore_n k, 1)) (hi : (k : Nat) = i) : am_Sn cc own ret nL nm scr pc (o_lstore i (pc + 1)) := by
  intro p l e R s m args below meth c Q E n0 s0 hscr X lv st h pc' lv' st' h' hF ok rm k H locs ls hR hL hS
  unfold o_lstore at hF
  split at hF
  · split at hF
    · rename_i hlt
      cases hF
      exact lv_lstore_n X.1 X.2.1 hd hi hL.has (by rw [← hL.2.2.1]; exact hlt) rfl (fun ls' h' => k H locs ls' hR (hL.stoL (by rw [← hL.2.2.1]; exact hlt) h') hS)
    · cases hF
  · cases hF
theorem sn_lstore {i : Nat} (hd : decode cc pc = .ok (.lstore i, 2)) : am_Sn cc own ret nL nm scr pc (o_lstore i (pc + 2)) := by
  intro p l e R s m args below meth c Q E n0 s0 hscr X lv st h pc' lv' st' h' hF ok rm k H locs ls hR hL hS
  unfold o_lstore at hF
  split at hF
  · split at hF
    · rename_i hlt
      cases hF
      exact lv_lstore X.1 X.2.1 hd hL.has (by rw [← hL.2.2.1]; exact hlt) rfl (fun ls' h' => k H locs ls' hR (hL.stoL (by rw [← hL.2.2.1]; exact hlt) h') hS)
    · cases hF
  · cases hF
theorem sn_astore_n {i : Nat} {k : Fin 4} (hd : decode cc pc = .ok (.astore_n k, 1)) (hi : (k : Nat) = i) : am_Sn cc own ret nL nm scr pc (o_astore i (pc + 1)) := by
  intro p l e R s m args below meth c Q E n0 s0 hscr X lv st h pc' lv' st' h' hF ok rm k H locs ls hR hL hS
  unfold o_astore at hF
  split at hF
  · rename_i x r
    split at hF
    · rename_i hlt
      cases hF
      have hn : i < nL := by rw [← hL.2.2.1]; exact hlt
      rw [List.map_cons]
      rcases am_cv_some (E := E) x with ⟨a, ea⟩ | ea
      · rw [ea]
        exact lv_astore_n X.1 X.2.1 hd hi hL.has hn rfl (fun ls' h' => k H locs ls' hR (hL.sto hn (by rw [ea]; exact h')) hS)
      · rw [ea]
        exact lv_astore_nN X.1 X.2.1 hd hi hL.has hn rfl (fun ls' h' => k H locs ls' hR (hL.sto hn (by rw [ea]; exact h')) hS)
    · cases hF
  · cases hF
theorem sn_astore {i : Nat} (hd : decode cc pc = .ok (.astore i, 2)) : am_Sn cc own ret nL nm scr pc (o_astore i (pc + 2)) := by
  intro p l e R s m args below meth c Q E n0 s0 hscr X lv st h pc' lv' st' h' hF ok rm k H locs ls hR hL hS
  unfold o_astore at hF
  split at hF
  · rename_i x r
    split at hF
    · rename_i hlt
      cases hF
      have hn : i < nL := by rw [← hL.2.2.1]; exact hlt
      rw [List.map_cons]
      rcases am_cv_some (E := E) x with ⟨a, ea⟩ | ea
      · rw [ea]
        exact lv_astore X.1 X.2.1 hd hL.has hn rfl (fun ls' h' => k H locs ls' hR (hL.sto hn (by rw [ea]; exact h')) hS)
      · rw [ea]
        exact lv_astoreN X.1 X.2.1 hd hL.has hn rfl (fun ls' h' => k H locs ls' hR (hL.sto hn (by rw [ea]; exact h')) hS)
    · cases hF
  · cases hF
theorem sn_iinc {i : Nat} {n : Int} (hd : decode cc pc = .ok (.iinc i n, 3)) : am_Sn cc own ret nL nm scr pc (o_iinc i n (pc + 3)) := by
  intro p l e R s m args below meth c Q E n0 s0 hscr X lv st h pc' lv' st' h' hF ok rm k H locs ls hR hL hS
  unfold o_iinc at hF
  split at hF
  · rename_i x hv
    cases hF
    have hn : i < nL := by rw [← hL.2.2.1]; exact am_lt_of hv
    obtain ⟨j, hj⟩ := List.getElem?_of_mem (am_al_in (E := E) hn hv)
    exact lv_iinc X.1 X.2.1 hd hL.has hj (v := Int32.ofInt (am_w (x + n))) (am_iadd x n) hn rfl (fun ls' h' => k H locs ls' hR (hL.sto hn h') hS)
  · cases hF
end AMS
