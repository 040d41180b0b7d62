/-! calls on texts, and the run -/
section SCT
variable {cc : ByteArray} {own nm : String} {ret : Option FieldType} {nL pc idx n : Nat} {y : MethodName} {cy : ByteArray} {ny : Nat} {ry : Option FieldType}
theorem am_ct_in {tl n : Nat} {st : am_St} {h : am_H} {as : List am_V} {st' : am_St} (hF : o_ct tl n st h = some (as, st')) : ∃ (a : Int) (bs : List am_V), as = .inr (.inr a) :: bs ∧ (a ≤ -2 ∧ -2 - (tl : Int) < a) ∧ bs.length = n ∧ (∀ v ∈ as, v ∈ st) ∧ (∀ v ∈ st', v ∈ st) ∧ st = bs.reverse ++ .inr (.inr a) :: st' ∧ (st'.map am_cat).sum ≤ 8 := by
  unfold o_ct at hF
  split at hF
  · rename_i a bs hb
    split at hF
    · rename_i ho
      cases hF
      have e : st = bs.reverse ++ .inr (.inr a) :: st.drop (n + 1) := by
        have h1 := congrArg List.reverse hb
        rw [List.reverse_reverse, List.reverse_cons] at h1
        have h2 := (List.take_append_drop (n + 1) st).symm
        rw [h1] at h2
        simpa using h2
      refine ⟨a, bs, rfl, ⟨ho.1, ho.2.1⟩, ho.2.2.1, fun v hv => ?_, fun v hv => List.mem_of_mem_drop hv, e, ho.2.2.2⟩
      rw [← hb] at hv
      exact List.mem_of_mem_take (List.mem_reverse.mp hv)
    · cases hF
  · cases hF
theorem sc_T (hw : am_cw y cy ny ry n) (hl : Cond.methodLink own idx y ∈ am_tb) (hin : Cond.instanceMethod y ∈ am_tb) (hse : Cond.selects "java/lang/String" y y ∈ am_tb) (hd : decode cc pc = .ok (.invokevirtual idx, 3)) : am_Sc cc own ret nL nm pc y cy ny ry (o_ct am_tx.length n) (pc + 3) := by
  refine ⟨?_, fun st h as st' hF => by obtain ⟨a, bs, -, -, -, h1, h2, -⟩ := am_ct_in hF; exact ⟨h1, h2⟩⟩
  intro p l e R s m args below meth c Q E n0 s0 d X lv st h as st' v h1 hF ok rm hM k H locs ls hR hL hS
  obtain ⟨a, bs, rfl, ho, hn, -, -, hst, hcat⟩ := am_ct_in hF
  obtain ⟨hx, hb, hml, hown, hr, hlk, hnm, hT, hlow⟩ := X
  obtain ⟨r1, r2, r3, r4, r5, r6, r7, r8⟩ := rm
  obtain ⟨ad, vv, j1, j2, hO, -⟩ := hT.2.2.2.2.1 (-2 - a).toNat (by omega)
  have ea : am_cv E (.inr (.inr a)) = .ref ad := am_cv_tx j1 (by omega)
  obtain ⟨cell, g1, g2, g3, -⟩ := (hO.kept (am_low_kept hT hlow)).kept hS.2.1
  refine am_of_run (a := (Value.ref ad :: bs.map (am_cv E)).toArray) (va_runV (As := bs.map (am_cv E)) (rest := st'.map (am_cv E)) (b := ad) (C := "java/lang/String") (Ts := []) ⟨hx, hb, hml, hown, fun w hw => by cases hw⟩ hM ⟨hw.B hT hl r7 r8, hT.2.1 _ hin _, hT.2.1 _ hse _⟩ ⟨am_blind, ⟨cell, g1, g2, g3⟩, fun U hU hW => ⟨?_, by rw [hU]; exact hR, am_T.warm hW hT⟩⟩ rfl (by rw [List.length_map]; exact hn) hL.1 ?_ ?_ hd ⟨?_, ?_⟩) ⟨r1, r2, r3, r4⟩ hL hS k
  · rw [List.map_cons, ea]
  · rw [hst, List.map_append, List.map_reverse, List.map_cons, ea]
  · rw [am_cats]; show 2 * 0 + _ ≤ 8; omega
  · omega
  · omega
end SCT
/-- an operation at its place is as the real code has it -/
def am_at (I : am_I) (scr : Nat × (Nat → Int)) (y : MethodName) (cc : ByteArray) (nL : Nat) (ret : Option FieldType) (pc : Nat) (op : am_Op) : Prop := match op with
  | .inl F => am_Sn cc y.cls ret nL y.name scr pc F ∧ am_Pv F
  | .inr (.inl F) => am_Sr cc ret pc F
  | .inr (.inr q) => ∃ yg cg ng rg, I q.1 = some (yg, cg, ng, rg) ∧ am_Sc cc y.cls ret nL y.name pc yg cg ng rg q.2.1 q.2.2
def am_OK (P : am_P) (I : am_I) (scr : Nat × (Nat → Int)) : Prop := ∀ (f : Nat) (y : MethodName) (cc : ByteArray) (nL : Nat) (ret : Option FieldType), I f = some (y, cc, nL, ret) → P.2 f = nL ∧ plainFor y = true ∧ ∀ pc, am_at I scr y cc nL ret pc (P.1 f pc)
theorem am_sl_cons (v : am_V) (vs : List am_V) : am_sl (v :: vs) = (if am_cat v = 2 then [some v, none] else [some v]) ++ am_sl vs := by
  rcases v with x | x | x <;> rfl
theorem am_sl_len (E : am_E) (as : List am_V) : (lg_sl (as.map (am_cv E))).length = (am_sl as).length := by
  induction as with
  | nil => rfl
  | cons v vs ih =>
    rw [List.map_cons, am_sl_cons, show lg_sl (am_cv E v :: vs.map (am_cv E)) = (if (am_cv E v).category = 2 then [.val (am_cv E v), .second] else [.val (am_cv E v)]) ++ lg_sl (vs.map (am_cv E)) from rfl, List.length_append, List.length_append, ih, am_cv_cat]
    split <;> rfl
theorem am_sl_args (E : am_E) : ∀ (as : List am_V) (k i : Nat) (v : am_V), (am_sl as)[i]? = some (some v) → (k + i, am_cv E v) ∈ lv_args k (as.map (am_cv E)) := by
  intro as
  induction as with
  | nil => intro k i v h; simp [am_sl] at h
  | cons u us ih =>
    intro k i v h
    rw [List.map_cons, lv_args, am_cv_cat]
    rw [am_sl_cons] at h
    by_cases c : am_cat u = 2
    · rw [if_pos c] at h ⊢
      match i, h with
      | 0, h => simp at h; subst h; exact List.mem_cons_self
      | 1, h => simp at h
      | i + 2, h =>
        have := ih (k + 2) i v (by simpa using h)
        rw [show k + (i + 2) = k + 2 + i by omega]
        exact List.mem_cons_of_mem _ this
    · rw [if_neg c] at h ⊢
      match i, h with
      | 0, h => simp at h; subst h; exact List.mem_cons_self
      | i + 1, h =>
        have := ih (k + 1) i v (by simpa using h)
        rw [show k + (i + 1) = k + 1 + i by omega]
        exact List.mem_cons_of_mem _ this
theorem am_entry_at {n : Nat} {as : List am_V} {i : Nat} {v : am_V} (h : (am_entry n as)[i]? = some (some v)) : (am_sl as)[i]? = some (some v) := by
  unfold am_entry at h
  by_cases hl : i < (am_sl as).length
  · rw [List.getElem?_append_left hl] at h
    exact h
  · rw [List.getElem?_append_right (by omega), List.getElem?_replicate] at h
    split at h <;> cases h
theorem am_sl_in : ∀ (as : List am_V) (i : Nat) (v : am_V), (am_sl as)[i]? = some (some v) → v ∈ as := by
  intro as
  induction as with
  | nil => intro i v h; simp [am_sl] at h
  | cons u us ih =>
    intro i v h
    rw [am_sl_cons] at h
    by_cases c : am_cat u = 2
    · rw [if_pos c] at h
      match i, h with
      | 0, h => simp at h; subst h; exact List.mem_cons_self
      | 1, h => simp at h
      | i + 2, h => exact List.mem_cons_of_mem _ (ih i v (by simpa using h))
    · rw [if_neg c] at h
      match i, h with
      | 0, h => simp at h; subst h; exact List.mem_cons_self
      | i + 1, h => exact List.mem_cons_of_mem _ (ih i v (by simpa using h))
theorem am_entry_LR {E : am_E} {n : Nat} {as : List am_V} (hl : (am_sl as).length ≤ n) : am_LR E n (lg_sl (as.map (am_cv E)) ++ List.replicate (n - (lg_sl (as.map (am_cv E))).length) Slot.unset).toArray (am_entry n as) := by
  obtain ⟨h1, h2, h3⟩ := lv_entry (as.map (am_cv E)) (n := n) (by rw [am_sl_len]; exact hl)
  refine ⟨h1, h2, ?_, fun i v hv => ?_⟩
  · unfold am_entry
    rw [List.length_append, List.length_replicate]
    omega
  · have := am_sl_args E as 0 i v (am_entry_at hv)
    rw [Nat.zero_add] at this
    exact h3 _ this
/-- a run keeps the bounds -/
theorem am_run_ok {P : am_P} {I : am_I} {scr : Nat × (Nat → Int)} (hP : am_OK P I scr) : ∀ (n d f pc : Nat) (lv : am_Lv) (st : am_St) (h : am_H) (v : Option am_V) (hE : am_H) (q : MethodName × ByteArray × Nat × Option FieldType), I f = some q → am_run P n d f pc lv st h = some (v, hE) → am_ok lv st h → (am_hr hE ∧ am_kd hE) ∧ h.1 ≤ hE.1 ∧ h.2.1 ≤ hE.2.1 ∧ ∀ u, v = some u → am_vr u := by
  intro n
  induction n with
  | zero => intro d f pc lv st h v hE q hq hr; simp [am_run] at hr
  | succ n ih =>
    intro d f pc lv st h v hE q hq hr ok
    obtain ⟨y, cc, nL, ret⟩ := q
    have hat := (hP f y cc nL ret hq).2.2 pc
    rw [am_run] at hr
    cases hc : P.1 f pc with
    | inl F =>
      rw [hc] at hat
      simp only [hc] at hr
      cases hF : F lv st h with
      | none => simp [hF] at hr
      | some x =>
        obtain ⟨pc', lv', st', h'⟩ := x
        simp only [hF] at hr
        obtain ⟨o1, o2, o3⟩ := (hat.2 _ _ _ _ _ _ _ hF).1 ok
        obtain ⟨a1, a2, a3, a4⟩ := ih _ _ _ _ _ _ _ _ _ hq hr o1
        exact ⟨a1, by omega, by omega, a4⟩
    | inr z =>
      cases z with
      | inl F =>
        rw [hc] at hat
        simp only [hc] at hr
        cases hF : F st with
        | none => simp [hF] at hr
        | some x =>
          simp only [hF] at hr
          cases hr
          exact ⟨ok.2.2, Nat.le_refl _, Nat.le_refl _, fun u hu => by subst hu; exact ok.1 u (hat.2 _ _ hF)⟩
      | inr z =>
        obtain ⟨g, F, nx⟩ := z
        rw [hc] at hat
        simp only [hc] at hr
        obtain ⟨yg, cg, ng, rg, hg, hsc⟩ := hat
        cases hF : F st h with
        | none => simp [hF] at hr
        | some x =>
          obtain ⟨as, st'⟩ := x
          simp only [hF] at hr
          cases d with
          | zero => simp at hr
          | succ d' =>
            simp only at hr
            by_cases hl : (am_sl as).length ≤ P.2 g
            · rw [if_pos hl] at hr
              cases hr2 : am_run P n d' g 0 (am_entry (P.2 g) as) [] h with
              | none => simp [hr2] at hr
              | some q2 =>
                obtain ⟨v1, h1⟩ := q2
                simp only [hr2] at hr
                have hin := hsc.2 _ _ _ _ hF
                obtain ⟨a1, a2, a3, a4⟩ := ih _ _ _ _ _ _ _ _ _ hg hr2 ⟨fun u hu => by simp at hu, fun i u hu => ok.1 u (hin.1 u (am_sl_in _ _ _ (am_entry_at hu))), ok.2.2⟩
                obtain ⟨b1, b2, b3, b4⟩ := ih _ _ _ _ _ _ _ _ _ hq hr ⟨fun u hu => by
                  rcases List.mem_append.mp hu with z | z
                  · cases v1 with
                    | none => simp at z
                    | some w => simp at z; subst z; exact a4 u rfl
                  · exact ok.1 u (hin.2 u z), ok.2.1, a1.1, a1.2⟩
                exact ⟨b1, by omega, by omega, b4⟩
            · rw [if_neg hl] at hr
              cases hr
