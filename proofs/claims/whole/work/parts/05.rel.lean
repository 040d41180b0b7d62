/-! how a state of the small machine stands in the real one. E: the made objects' numbers and slots, the rows' numbers, the first address, the heap at the start, the texts' addresses, the script -/
abbrev am_E : Type := va_G × (Nat → ClassId) × Nat × Heap × (Nat → Option Nat) × (Nat × (Nat → Int))
def am_ro (b0 : Nat) (r : Int) : Option Nat := if 0 ≤ r then some (b0 + r.toNat) else none
def am_cv (E : am_E) : am_V → Value
  | .inl x => .int (Int32.ofInt x)
  | .inr (.inl x) => .long (Int64.ofInt x)
  | .inr (.inr r) => if r ≤ -2 then va_rf (E.2.2.2.2.1 (-2 - r).toNat) else va_rf (am_ro E.2.2.1 r)
def am_fv (b0 t : Nat) (x : Int) : Value := if t = 0 then .int (Int32.ofInt x) else if t = 1 then .long (Int64.ofInt x) else va_rf (am_ro b0 x)
def am_ce (E : am_E) (h : am_H) (a : Nat) : va_E :=
  if 10 ≤ (h.2.2.1 a).1 then .inr ((h.2.2.1 a).1 - 10, (List.range (h.2.2.1 a).2).map (fun j => am_fv E.2.2.1 (am_ft ((h.2.2.1 a).1 - 10) j) (h.2.2.2 a j)))
  else .inl (E.2.1 (h.2.2.1 a).1, (h.2.2.1 a).2, if (h.2.2.1 a).1 = 2 then .inr (.inl (fun i => Int64.ofInt (h.2.2.2 a i))) else if 5 ≤ (h.2.2.1 a).1 then .inr (.inr (.inr (.inr (fun i => am_ro E.2.2.1 (h.2.2.2 a i))))) else .inl (fun i => Int32.ofInt (h.2.2.2 a i)))
def am_ws (E : am_E) (h : am_H) : va_W := (List.range h.1).map (fun a => (E.2.2.1 + a, am_ce E h a))
/-- a number that can stand at place i of a cell of kind k -/
def am_xr (k i : Nat) (x : Int) : Prop := if 10 ≤ k then (if am_ft (k - 10) i = 0 then am_w x = x else if am_ft (k - 10) i = 1 then am_W x = x else -1 ≤ x) else if k = 2 then am_W x = x else if 5 ≤ k then -1 ≤ x else am_w x = x
def am_hr (h : am_H) : Prop := ∀ a i : Nat, i < (h.2.2.1 a).2 → am_xr (h.2.2.1 a).1 i (h.2.2.2 a i)
def am_vr : am_V → Prop
  | .inl x => am_w x = x
  | .inr (.inl x) => am_W x = x
  | .inr (.inr _) => True
/-- kinds that there are -/
def am_kd (h : am_H) : Prop := ∀ a : Nat, (h.2.2.1 a).1 ≠ 0 → a < h.1 ∧ (10 ≤ (h.2.2.1 a).1 → ∃ q : vw_C, am_cl_[(h.2.2.1 a).1 - 10]? = some q ∧ q.2.2 = (h.2.2.1 a).2)
def am_HR (E : am_E) (h : am_H) (H : Heap) : Prop := H.size = E.2.2.1 + h.1 ∧ (∀ q : Nat, q < E.2.2.1 → H[q]? = E.2.2.2.1[q]?) ∧ va_P E.1 am_cl_ (am_ws E h) H
def am_tys (E : am_E) : List (ClassId × FieldType) := [(E.2.1 1, .int), (E.2.1 1, .int), (E.2.1 2, .long), (E.2.1 3, .byte), (E.2.1 4, .boolean), (E.2.1 5, .object "SnorePlay$Play"), (E.2.1 6, .object "SnorePlay$Tray"), (E.2.1 7, .array .long)]
def am_LR (E : am_E) (nL : Nat) (ls : Array Slot) (lv : am_Lv) : Prop := ls.size = nL ∧ lv_wf ls ∧ lv.length = nL ∧ ∀ (i : Nat) (v : am_V), lv[i]? = some (some v) → ls[i]? = some (.val (am_cv E v))
def am_A (E : am_E) : Nat → Prop := fun q => E.2.2.1 ≤ q
theorem am_ws_get {E : am_E} {h : am_H} {a : Nat} (ha : a < h.1) : (am_ws E h)[a]? = some (E.2.2.1 + a, am_ce E h a) := by
  unfold am_ws
  simp [ha]
theorem am_ws_some {E : am_E} {h : am_H} {a : Nat} {q : Nat × va_E} (e : (am_ws E h)[a]? = some q) : a < h.1 ∧ q = (E.2.2.1 + a, am_ce E h a) := by
  have hl : a < h.1 := by
    have := (List.getElem?_eq_some_iff.mp e).1
    simpa [am_ws] using this
  rw [am_ws_get hl] at e
  exact ⟨hl, (Option.some.inj e).symm⟩
theorem am_ws_D {E : am_E} {h : am_H} : va_D (am_A E) (am_ws E h) := by
  refine ⟨fun i j p q hp hq e => ?_, fun k q hq => ?_⟩
  · have h1 := (am_ws_some hp).2
    have h2 := (am_ws_some hq).2
    subst h1; subst h2
    simp only at e
    omega
  · have h1 := (am_ws_some hq).2
    subst h1
    show E.2.2.1 ≤ E.2.2.1 + k
    omega
theorem am_ws_set {E : am_E} {h h' : am_H} {a : Nat} (h1 : h'.1 = h.1) (hk : h'.2.2.1 = h.2.2.1) (hd : ∀ b j, b ≠ a → h'.2.2.2 b j = h.2.2.2 b j) : (am_ws E h).set a (E.2.2.1 + a, am_ce E h' a) = am_ws E h' := by
  apply List.ext_getElem?
  intro i
  rw [List.getElem?_set]
  by_cases hi : i < h.1
  · rw [am_ws_get (h := h') (by omega)]
    by_cases e : a = i
    · subst e
      simp [am_ws, hi]
    · rw [if_neg e, am_ws_get hi]
      have : am_ce E h i = am_ce E h' i := by
        unfold am_ce
        rw [hk]
        simp only [hd i _ (Ne.symm e)]
      rw [this]
  · have l1 : (am_ws E h)[i]? = none := by simp [am_ws]; omega
    have l2 : (am_ws E h')[i]? = none := by simp [am_ws]; omega
    rw [l1, l2]
    by_cases e : a = i
    · subst e
      simp [am_ws, hi]
    · simp [e]
theorem am_ws_push {E : am_E} {h : am_H} {k n : Nat} {z : Nat → Int} : am_ws E (am_mk h k n z) = am_ws E h ++ [(E.2.2.1 + h.1, am_ce E (am_mk h k n z) h.1)] := by
  unfold am_ws
  rw [show (am_mk h k n z).1 = h.1 + 1 from rfl, List.range_succ, List.map_append]
  congr 1
  apply List.map_congr_left
  intro a ha
  have hl : a < h.1 := List.mem_range.mp ha
  have : am_ce E h a = am_ce E (am_mk h k n z) a := by
    unfold am_ce am_mk
    simp only [if_neg (Nat.ne_of_lt hl)]
  rw [this]
-- what a cell is, by its kind
theorem am_ce_i {E : am_E} {h : am_H} {a t : Nat} (hk : (h.2.2.1 a).1 = t) (ht : t = 1 ∨ t = 3 ∨ t = 4) : am_ce E h a = .inl (E.2.1 t, (h.2.2.1 a).2, .inl (fun i => Int32.ofInt (h.2.2.2 a i))) := by
  unfold am_ce
  rw [hk, if_neg (by omega), if_neg (by omega), if_neg (by omega)]
theorem am_ce_l {E : am_E} {h : am_H} {a : Nat} (hk : (h.2.2.1 a).1 = 2) : am_ce E h a = .inl (E.2.1 2, (h.2.2.1 a).2, .inr (.inl (fun i => Int64.ofInt (h.2.2.2 a i)))) := by
  unfold am_ce
  rw [hk, if_neg (by omega), if_pos rfl]
theorem am_ce_r {E : am_E} {h : am_H} {a t : Nat} (hk : (h.2.2.1 a).1 = t) (ht : 5 ≤ t ∧ t ≤ 7) : am_ce E h a = .inl (E.2.1 t, (h.2.2.1 a).2, .inr (.inr (.inr (.inr (fun i => am_ro E.2.2.1 (h.2.2.2 a i)))))) := by
  unfold am_ce
  rw [hk, if_neg (by omega), if_neg (by omega), if_pos (by omega)]
theorem am_ce_o {E : am_E} {h : am_H} {a c : Nat} (hk : (h.2.2.1 a).1 = c + 10) : am_ce E h a = .inr (c, (List.range (h.2.2.1 a).2).map (fun j => am_fv E.2.2.1 (am_ft c j) (h.2.2.2 a j))) := by
  unfold am_ce
  rw [hk, if_pos (by omega), show c + 10 - 10 = c by omega]
theorem am_cv_ref {E : am_E} {a : Int} (ha : 0 ≤ a) : am_cv E (.inr (.inr a)) = .ref (E.2.2.1 + a.toNat) := by
  show (if a ≤ -2 then _ else va_rf (am_ro E.2.2.1 a)) = _
  rw [if_neg (by omega)]
  unfold am_ro
  rw [if_pos ha]
  rfl
theorem am_cv_nul {E : am_E} : am_cv E (.inr (.inr (-1))) = .null := rfl
theorem am_cv_fr {E : am_E} {a : Int} (ha : -1 ≤ a) : am_cv E (.inr (.inr a)) = va_rf (am_ro E.2.2.1 a) := by
  show (if a ≤ -2 then _ else va_rf (am_ro E.2.2.1 a)) = _
  rw [if_neg (by omega)]
theorem am_cv_cat {E : am_E} (v : am_V) : (am_cv E v).category = am_cat v := by
  rcases v with x | x | x
  · rfl
  · rfl
  · show (if x ≤ -2 then _ else va_rf (am_ro E.2.2.1 x)).category = 1
    split
    · cases E.2.2.2.2.1 (-2 - x).toNat <;> rfl
    · unfold am_ro; split <;> rfl
theorem am_cats {E : am_E} (l : List am_V) : ((l.map (am_cv E)).map fun v => v.category).sum = (l.map am_cat).sum := by
  rw [List.map_map]
  congr 1
  apply List.map_congr_left
  intro v _
  exact am_cv_cat v
-- the locals
def am_al (E : am_E) (nL : Nat) (lv : am_Lv) : List (Nat × Value) := (List.range nL).filterMap (fun i => match lv[i]? with
  | some (some v) => some (i, am_cv E v)
  | _ => none)
theorem am_al_in {E : am_E} {nL : Nat} {lv : am_Lv} {i : Nat} {v : am_V} (hi : i < nL) (h : lv[i]? = some (some v)) : (i, am_cv E v) ∈ am_al E nL lv := by
  unfold am_al
  refine List.mem_filterMap.mpr ⟨i, List.mem_range.mpr hi, ?_⟩
  rw [h]
theorem am_al_of {E : am_E} {nL : Nat} {lv : am_Lv} {q : Nat × Value} (h : q ∈ am_al E nL lv) : ∃ v, lv[q.1]? = some (some v) ∧ q.2 = am_cv E v := by
  unfold am_al at h
  obtain ⟨i, -, e⟩ := List.mem_filterMap.mp h
  cases hv : lv[i]? with
  | none => simp [hv] at e
  | some o =>
    cases o with
    | none => simp [hv] at e
    | some v =>
      rw [hv] at e
      cases e
      exact ⟨v, hv, rfl⟩
theorem am_LR.has {E : am_E} {nL : Nat} {ls : Array Slot} {lv : am_Lv} (h : am_LR E nL ls lv) : lv_has ls nL (am_al E nL lv) := by
  obtain ⟨h1, h2, h3, h4⟩ := h
  refine ⟨h1, h2, fun q hq => ?_⟩
  obtain ⟨v, e1, e2⟩ := am_al_of hq
  rw [e2]
  exact h4 _ _ e1
theorem am_lt_of {lv : am_Lv} {i : Nat} {x : Option am_V} (h : lv[i]? = some x) : i < lv.length := (List.getElem?_eq_some_iff.mp h).1
/-- clearing keeps all but a long ahead -/
theorem am_cl_keep {lv : am_Lv} {i j : Nat} {u : am_V} (h : (am_cl lv i)[j]? = some (some u)) : lv[j]? = some (some u) ∧ ¬ (j + 1 = i ∧ am_cat u = 2) := by
  unfold am_cl at h
  cases i with
  | zero => exact ⟨h, fun q => by omega⟩
  | succ k =>
    simp only at h
    split at h
    · rename_i x hx
      rw [List.getElem?_set] at h
      by_cases e : k = j
      · subst e
        simp [am_lt_of hx] at h
      · rw [if_neg e] at h
        exact ⟨h, fun q => e (by omega)⟩
    · rename_i hx
      refine ⟨h, fun q => ?_⟩
      have e : j = k := by omega
      subst e
      rcases u with x | x | x
      · simp [am_cat] at q
      · exact hx x h
      · simp [am_cat] at q
theorem am_cl_len (lv : am_Lv) (i : Nat) : (am_cl lv i).length = lv.length := by
  unfold am_cl
  cases i with
  | zero => rfl
  | succ k =>
    simp only
    split
    · simp
    · rfl
theorem am_LR.sto {E : am_E} {nL : Nat} {ls ls' : Array Slot} {lv : am_Lv} {i : Nat} {v : am_V} (h : am_LR E nL ls lv) (hi : i < nL) (h' : lv_has ls' nL ((i, am_cv E v) :: (am_al E nL lv).filter (fun q => !(q.1 == i) && !(q.1 + 1 == i && q.2.category == 2)))) : am_LR E nL ls' (am_sto lv i v) := by
  obtain ⟨h1, h2, h3, h4⟩ := h
  obtain ⟨g1, g2, g3⟩ := h'
  refine ⟨g1, g2, by simp [am_sto, am_cl_len, h3], fun j u hj => ?_⟩
  unfold am_sto at hj
  rw [List.getElem?_set] at hj
  by_cases e : i = j
  · subst e
    rw [if_pos rfl, if_pos (by rw [am_cl_len, h3]; exact hi)] at hj
    cases hj
    exact g3 _ List.mem_cons_self
  · rw [if_neg e] at hj
    obtain ⟨k1, k2⟩ := am_cl_keep hj
    refine g3 (j, am_cv E u) (List.mem_cons_of_mem _ (List.mem_filter.mpr ⟨am_al_in (by rw [← h3]; exact am_lt_of k1) k1, ?_⟩))
    simp only [am_cv_cat]
    have e1 : (j == i) = false := by simp [Ne.symm e]
    rw [e1]
    have e2 : (j + 1 == i && am_cat u == 2) = false := by
      rw [Bool.and_eq_false_iff]
      by_cases q : j + 1 = i
      · right
        have : ¬ am_cat u = 2 := fun z => k2 ⟨q, z⟩
        simp [this]
      · left; simp [q]
    rw [e2]
    rfl
theorem am_LR.stoL {E : am_E} {nL : Nat} {ls ls' : Array Slot} {lv : am_Lv} {i : Nat} {v : am_V} (h : am_LR E nL ls lv) (hi : i + 1 < nL) (h' : lv_has ls' nL ((i, am_cv E v) :: (am_al E nL lv).filter (fun q => !(q.1 == i) && (!(q.1 == i + 1) && !(q.1 + 1 == i && q.2.category == 2))))) : am_LR E nL ls' (am_stoL lv i v) := by
  obtain ⟨h1, h2, h3, h4⟩ := h
  obtain ⟨g1, g2, g3⟩ := h'
  refine ⟨g1, g2, by simp [am_stoL, am_cl_len, h3], fun j u hj => ?_⟩
  unfold am_stoL at hj
  rw [List.getElem?_set] at hj
  by_cases e0 : i + 1 = j
  · subst e0
    rw [if_pos rfl] at hj
    split at hj <;> cases hj
  rw [if_neg e0, List.getElem?_set] at hj
  by_cases e : i = j
  · subst e
    rw [if_pos rfl, if_pos (by rw [am_cl_len, h3]; omega)] at hj
    cases hj
    exact g3 _ List.mem_cons_self
  · rw [if_neg e] at hj
    obtain ⟨k1, k2⟩ := am_cl_keep hj
    refine g3 (j, am_cv E u) (List.mem_cons_of_mem _ (List.mem_filter.mpr ⟨am_al_in (by rw [← h3]; exact am_lt_of k1) k1, ?_⟩))
    simp only [am_cv_cat]
    have e1 : (j == i) = false := by simp [Ne.symm e]
    have e3 : (j == i + 1) = false := by simp [Ne.symm e0]
    rw [e1, e3]
    have e2 : (j + 1 == i && am_cat u == 2) = false := by
      rw [Bool.and_eq_false_iff]
      by_cases q : j + 1 = i
      · right
        have : ¬ am_cat u = 2 := fun z => k2 ⟨q, z⟩
        simp [this]
      · left; simp [q]
    rw [e2]
    rfl
