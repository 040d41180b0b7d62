/-! a run of the small machine is one of the real one -/
/-- of a method: its name, bytes, how many locals, what it returns -/
abbrev am_I : Type := Nat → Option (MethodName × ByteArray × Nat × Option FieldType)
def am_rmd (d mc ms : Nat) : Room := { frames := d + 1, cells := mc, slots := ms, locals := 41 * (d + 1) }
def am_Pc (E : am_E) (as : List am_V) (h : am_H) : Array Value → State → Prop := fun a U => a = (as.map (am_cv E)).toArray ∧ am_HR E h U.heap ∧ am_T E U
def am_Qc (E : am_E) (h : am_H) (v : Option am_V) : Array Value → State → Outcome → State → Prop := fun _ st oc t => oc = .returned (v.map (am_cv E)) ∧ am_HR E h t.heap ∧ va_F (am_A E) st t
def am_Met (l : Launch) (E : am_E) (y : MethodName) (cc : ByteArray) (nL : Nat) (ret : Option FieldType) (d : Nat) (as : List am_V) (h : am_H) (v : Option am_V) (h1 : am_H) : Prop :=
  Met l y [Cond.code y cc nL ret] (am_rmd d (h1.1 - h.1) (h1.2.1 - h.2.1)) (am_Pc E as h) (am_Qc E h1 v) (h1.1 - h.1) (h1.2.1 - h.2.1) (am_A E)
/-- an end of the small machine is one of the real one -/
def am_Sr (cc : ByteArray) (ret : Option FieldType) (pc : Nat) (F : am_St → Option (Option am_V)) : Prop :=
  (∀ (p : Program) (l : Launch) (e : Env) (R : Room) (s : State) (m : MethodId) (args : Array Value) (below : List Frame) (meth : Method) (c : Code) (E : am_E) (own nm : String) (nL : Nat), am_X E cc own ret nL nm p s m meth c →
  ∀ (st : am_St) (h : am_H) (v : Option am_V) (H : Heap) (locs : List Loc) (ls : Array Slot) (cells slots : Nat), F st = some v → am_HR E h H → va_S (am_A E) s.heap H locs → W p l e R s m args below meth c H locs cells slots (MQ below (am_Qc E h v) args s cells slots (am_A E)) (F0 m pc ls (st.map (am_cv E)))) ∧
  ∀ (st : am_St) (v : am_V), F st = some (some v) → v ∈ st
theorem am_Qc_of {E : am_E} {h : am_H} {v : Option am_V} {args : Array Value} {s : State} {H : Heap} {locs : List Loc} (hR : am_HR E h H) (hS : va_S (am_A E) s.heap H locs) {oc : Outcome} (ho : oc = .returned (v.map (am_cv E))) : ∀ t : State, t.heap = H → s.WarmedH t.vm → am_Qc E h v args s oc t := fun t ht _ => ⟨ho, by rw [ht]; exact hR, hS.F ht⟩
section SR
variable {cc : ByteArray} {pc : Nat}
theorem sr_i (hd : decode cc pc = .ok (.ireturn, 1)) : am_Sr cc (some .int) pc o_iret := by
  refine ⟨?_, ?_⟩
  · intro p l e R s m args below meth c E own nm nL X st h v H locs ls cells slots hF hR hS
    unfold o_iret at hF
    split at hF
    · cases hF
      exact W.iret X.1 X.2.1 X.2.2.2.2.1 (am_Qc_of hR hS rfl) hS.2.2 hd X.2.2.2.2.2.1
    · cases hF
  · intro st v hF
    unfold o_iret at hF
    split at hF
    · cases hF; simp
    · cases hF
theorem sr_z {ty : FieldType} (hz : ∀ x : Int, (x = 0 ∨ x = 1) → narrow ty (.int (Int32.ofInt x)) = .int (Int32.ofInt x)) (hd : decode cc pc = .ok (.ireturn, 1)) : am_Sr cc (some ty) pc o_zret := by
  refine ⟨?_, ?_⟩
  · intro p l e R s m args below meth c E own nm nL X st h v H locs ls cells slots hF hR hS
    unfold o_zret at hF
    split at hF
    · split at hF
      · rename_i hx
        cases hF
        exact W.zret X.1 X.2.1 X.2.2.2.2.1 (hz _ hx) (am_Qc_of hR hS rfl) hS.2.2 hd X.2.2.2.2.2.1
      · cases hF
    · cases hF
  · intro st v hF
    unfold o_zret at hF
    split at hF
    · split at hF
      · cases hF; simp
      · cases hF
    · cases hF
theorem sr_l (hd : decode cc pc = .ok (.lreturn, 1)) : am_Sr cc (some .long) pc o_lret := by
  refine ⟨?_, ?_⟩
  · intro p l e R s m args below meth c E own nm nL X st h v H locs ls cells slots hF hR hS
    unfold o_lret at hF
    split at hF
    · cases hF
      exact W.lret X.1 X.2.1 X.2.2.2.2.1 (am_Qc_of hR hS rfl) hS.2.2 hd X.2.2.2.2.2.1
    · cases hF
  · intro st v hF
    unfold o_lret at hF
    split at hF
    · cases hF; simp
    · cases hF
theorem sr_a {rt : FieldType} (hrt : (∃ n, rt = .object n) ∨ ∃ t, rt = .array t) (hd : decode cc pc = .ok (.areturn, 1)) : am_Sr cc (some rt) pc o_aret := by
  refine ⟨?_, ?_⟩
  · intro p l e R s m args below meth c E own nm nL X st h v H locs ls cells slots hF hR hS
    unfold o_aret at hF
    split at hF
    · rename_i x
      split at hF
      · cases hF
        refine W.aret X.1 X.2.1 X.2.2.2.2.1 hrt ?_ (am_Qc_of hR hS rfl) hS.2.2 hd X.2.2.2.2.2.1
        rcases am_cv_some (E := E) x with ⟨a, ea⟩ | ea
        · exact Or.inr ⟨a, ea⟩
        · exact Or.inl ea
      · cases hF
    · cases hF
  · intro st v hF
    unfold o_aret at hF
    split at hF
    · split at hF
      · cases hF; simp
      · cases hF
    · cases hF
theorem sr_v (hd : decode cc pc = .ok (.return_, 1)) : am_Sr cc none pc o_vret := by
  refine ⟨?_, ?_⟩
  · intro p l e R s m args below meth c E own nm nL X st h v H locs ls cells slots hF hR hS
    unfold o_vret at hF
    split at hF
    · cases hF
      exact W.vret X.1 X.2.1 X.2.2.2.2.1 (am_Qc_of hR hS rfl) hS.2.2 hd X.2.2.2.2.2.1
    · cases hF
  · intro st v hF
    unfold o_vret at hF
    split at hF <;> cases hF
end SR
/-- a call of the small machine is one of the real one -/
def am_Sc (cc : ByteArray) (own : String) (ret : Option FieldType) (nL : Nat) (nm : String) (pc : Nat) (y : MethodName) (cy : ByteArray) (ny : Nat) (ry : Option FieldType) (F : am_St → am_H → Option (List am_V × am_St)) (nx : Nat) : Prop :=
  (∀ (p : Program) (l : Launch) (e : Env) (R : Room) (s : State) (m : MethodId) (args : Array Value) (below : List Frame) (meth : Method) (c : Code) (Q : State → Prop) (E : am_E) (n0 s0 d : Nat), am_X E cc own ret nL nm p s m meth c →
  ∀ (lv : am_Lv) (st : am_St) (h : am_H) (as : List am_V) (st' : am_St) (v : Option am_V) (h1 : am_H), F st h = some (as, st') → am_ok lv st h → (n0 ≤ h.1 ∧ s0 ≤ h.2.1 ∧ h.1 ≤ h1.1 ∧ h.2.1 ≤ h1.2.1 ∧ h1.1 - n0 ≤ R.cells ∧ h1.2.1 - s0 ≤ R.slots ∧ d + 2 ≤ R.frames ∧ 41 * (d + 2) ≤ R.locals) →
  am_Met l E y cy ny ry d as h v h1 → am_G p l e R s m args below meth c Q E nL n0 s0 nx lv (v.toList ++ st') h1 → am_G p l e R s m args below meth c Q E nL n0 s0 pc lv st h) ∧
  ∀ (st : am_St) (h : am_H) (as : List am_V) (st' : am_St), F st h = some (as, st') → (∀ v ∈ as, v ∈ st) ∧ (∀ v ∈ st', v ∈ st)
theorem am_blind {E : am_E} {as : List am_V} {h : am_H} : FrameBlind (am_Pc E as h) := fun a U g mk q => ⟨q.1, q.2.1, am_T.warm (State.WarmedH.refl U) q.2.2⟩
theorem am_of_run {p : Program} {l : Launch} {e : Env} {R : Room} {s : State} {m : MethodId} {args a : Array Value} {below : List Frame} {meth : Method} {c : Code} {Q : State → Prop} {E : am_E} {nL n0 s0 pc : Nat} {lv : am_Lv} {st' : am_St} {h h1 : am_H} {v : Option am_V} {H : Heap} {locs : List Loc} {ls : Array Slot} {st0 : List Value}
    (hr : va_Run p l e R s m args below meth c H locs (h.1 - n0) (h.2.1 - s0) (h1.1 - h.1) (h1.2.1 - h.2.1) (F0 m pc ls st0) (st'.map (am_cv E)) (am_Qc E h1 v a) (am_A E)) (hm : n0 ≤ h.1 ∧ s0 ≤ h.2.1 ∧ h.1 ≤ h1.1 ∧ h.2.1 ≤ h1.2.1) (hL : am_LR E nL ls lv) (hS : va_S (am_A E) s.heap H locs)
    (k : am_G p l e R s m args below meth c Q E nL n0 s0 (pc + 3) lv (v.toList ++ st') h1) : W p l e R s m args below meth c H locs (h.1 - n0) (h.2.1 - s0) Q (F0 m pc ls st0) := by
  intro T hT X
  obtain ⟨v1, st₀, t, T', L, e0, X', hL', e1, e2, ⟨q1, q2, q3⟩, st⟩ := hr T hT X
  have hv : v1 = v.map (am_cv E) := by simpa using q1
  subst hv
  have hS' : va_S (am_A E) s.heap t.heap (locs ++ L) := by
    refine ⟨?_, fun q h1 h2 => ?_, fun q hq => ?_⟩
    · have := hS.1; have := q3.1; rw [e0] at this; omega
    · rw [q3.2 q (by rw [e0]; exact Nat.lt_of_lt_of_le h1 hS.1) h2, e0]
      exact hS.2.1 q h1 h2
    · rcases List.mem_append.mp hq with z | z
      · exact hS.2.2 q z
      · exact hL' q z
  have kk := k t.heap (locs ++ L) ls q2 hL hS'
  rw [show h1.1 - n0 = h.1 - n0 + (h1.1 - h.1) by omega, show h1.2.1 - s0 = h.2.1 - s0 + (h1.2.1 - h.2.1) by omega] at kk
  obtain ⟨t2, a1, b1⟩ := kk T' e1 X'
  refine ⟨t2, st t2 ?_, b1⟩
  rw [List.map_append] at a1
  cases v <;> exact a1
section SC
variable {cc : ByteArray} {own nm : String} {ret : Option FieldType} {nL pc idx n : Nat} {y : MethodName} {cy : ByteArray} {ny : Nat} {ry : Option FieldType}
theorem am_cs_in {n : Nat} {st : am_St} {h : am_H} {as : List am_V} {st' : am_St} (hF : o_cs n st h = some (as, st')) : (∀ v ∈ as, v ∈ st) ∧ (∀ v ∈ st', v ∈ st) ∧ st = as.reverse ++ st' ∧ as.length = n ∧ (st'.map am_cat).sum ≤ 8 := by
  unfold o_cs at hF
  split at hF
  · rename_i ho
    cases hF
    refine ⟨fun v hv => List.mem_of_mem_take (List.mem_reverse.mp hv), fun v hv => List.mem_of_mem_drop hv, ?_, ?_, ho.2⟩
    · rw [List.reverse_reverse, List.take_append_drop]
    · rw [List.length_reverse, List.length_take]; omega
  · cases hF
theorem am_cv_in {c n : Nat} {st : am_St} {h : am_H} {as : List am_V} {st' : am_St} (hF : o_cv c n st h = some (as, st')) : ∃ (a : Int) (bs : List am_V), as = .inr (.inr a) :: bs ∧ am_isO h a c ∧ bs.length = n ∧ (∀ v ∈ as, v ∈ st) ∧ (∀ v ∈ st', v ∈ st) ∧ st = bs.reverse ++ .inr (.inr a) :: st' ∧ (st'.map am_cat).sum ≤ 8 := by
  unfold o_cv at hF
  split at hF
  · rename_i a bs hb
    split at hF
    · rename_i ho
      cases hF
      have e : st = bs.reverse ++ .inr (.inr a) :: st.drop (n + 1) := by
        have h1 := congrArg List.reverse hb
        rw [List.reverse_reverse, List.reverse_cons] at h1
        have h2 := (List.take_append_drop (n + 1) st).symm
        rw [h1] at h2
        simpa using h2
      refine ⟨a, bs, rfl, ho.1, ho.2.1, fun v hv => ?_, fun v hv => List.mem_of_mem_drop hv, e, ho.2.2⟩
      rw [← hb] at hv
      exact List.mem_of_mem_take (List.mem_reverse.mp hv)
    · cases hF
  · cases hF
/-- the words of a call -/
def am_cw (y : MethodName) (cy : ByteArray) (ny : Nat) (ry : Option FieldType) (n : Nat) : Prop := Cond.code y cy ny ry ∈ am_tb ∧ ((Cond.code y cy ny ry).onTables && (Cond.code y cy ny ry).keeps) = true ∧ Cond.initialized y.cls ∈ am_tb ∧ (y.cls ≠ "java/lang/invoke/MethodHandle" ∧ y.cls ≠ "java/lang/invoke/VarHandle") ∧ (parseMethodDescriptor y.desc).map (fun d => d.parameters.length) = some n ∧ ny ≤ 22
theorem am_cw.B {R : Room} {s : State} {args : Array Value} {E : am_E} {d mc ms : Nat} (h : am_cw y cy ny ry n) (hT : am_T E s) (hl : Cond.methodLink own idx y ∈ am_tb) (hf : d + 2 ≤ R.frames) (hl2 : 41 * (d + 2) ≤ R.locals) : CallB R s args own idx y cy ny ry [Cond.code y cy ny ry] (am_rmd d mc ms) mc ms n := by
  obtain ⟨h1, h2, h3, h4, h5, h6⟩ := h
  refine ⟨rfl, rfl, hf, by show 8 + (ny + 11) + 41 * (d + 1) ≤ _; omega, fun w hw a' U hW => ?_, List.mem_singleton.mpr rfl, hT.2.1 _ h1 _, hT.2.1 _ h3 _, h4, fun sig hs => ?_, hT.2.1 _ hl _⟩
  · rw [List.mem_singleton.mp hw]
    exact word_at hW (Or.inl h2) (hT.2.1 _ h1 #[])
  · rw [hs] at h5
    exact (Option.some.inj h5).symm
theorem am_cw.N {R : Room} {s : State} {args : Array Value} {E : am_E} {d mc ms : Nat} {host : String} (h : am_cw y cy ny ry n) (hT : am_T E s) (hl : Cond.methodLinkNest own idx y host ∈ am_tb) (hf : d + 2 ≤ R.frames) (hl2 : 41 * (d + 2) ≤ R.locals) : va_CN R s args own idx y host cy ny ry [Cond.code y cy ny ry] (am_rmd d mc ms) mc ms n := by
  obtain ⟨h1, h2, h3, h4, h5, h6⟩ := h
  refine ⟨⟨rfl, rfl, hf, by show 8 + (ny + 11) + 41 * (d + 1) ≤ _; omega, fun w hw a' U hW => ?_, List.mem_singleton.mpr rfl⟩, hT.2.1 _ h1 _, hT.2.1 _ h3 _, h4, fun sig hs => ?_, hT.2.1 _ hl _⟩
  · rw [List.mem_singleton.mp hw]
    exact word_at hW (Or.inl h2) (hT.2.1 _ h1 #[])
  · rw [hs] at h5
    exact (Option.some.inj h5).symm
theorem sc_V {c0 N : Nat} {C : String} {T : u_T} {ty : Nat → FieldType} (hC : am_Cl c0 C T N ty) (hw : am_cw y cy ny ry n) (hl : Cond.methodLink own idx y ∈ am_tb) (hin : Cond.instanceMethod y ∈ am_tb) (hse : Cond.selects C y y ∈ am_tb) (hd : decode cc pc = .ok (.invokevirtual idx, 3)) : am_Sc cc own ret nL nm pc y cy ny ry (o_cv c0 n) (pc + 3) := by
  refine ⟨?_, fun st h as st' hF => by obtain ⟨a, bs, -, -, -, h1, h2, -⟩ := am_cv_in hF; exact ⟨h1, h2⟩⟩
  intro p l e R s m args below meth c Q E n0 s0 d X lv st h as st' v h1 hF ok rm hM k H locs ls hR hL hS
  obtain ⟨a, bs, rfl, ho, hn, -, -, hst, hcat⟩ := am_cv_in hF
  obtain ⟨hx, hb, hml, hown, hr, hlk, hnm, hT, hlow⟩ := X
  obtain ⟨r1, r2, r3, r4, r5, r6, r7, r8⟩ := rm
  obtain ⟨w1, w2, w3⟩ := am_o_at (E := E) hC ok.2.2.2 ho
  refine am_of_run (a := (Value.ref (E.2.2.1 + a.toNat) :: bs.map (am_cv E)).toArray) (va_runV (As := bs.map (am_cv E)) (rest := st'.map (am_cv E)) (b := E.2.2.1 + a.toNat) (C := C) (Ts := []) ⟨hx, hb, hml, hown, fun w hw => by cases hw⟩ hM ⟨hw.B hT hl r7 r8, hT.2.1 _ hin _, hT.2.1 _ hse _⟩ ⟨am_blind, va_recv hT.2.2.1 hR.2.2 hC.1 w3, fun U hU hW => ⟨?_, by rw [hU]; exact hR, am_T.warm hW hT⟩⟩ rfl (by rw [List.length_map]; exact hn) hL.1 ?_ ?_ hd ⟨?_, ?_⟩) ⟨r1, r2, r3, r4⟩ hL hS k
  · rw [List.map_cons, am_cv_ref ho.1]
  · rw [hst, List.map_append, List.map_reverse, List.map_cons, am_cv_ref ho.1]
  · rw [am_cats]; show 2 * 0 + _ ≤ 8; omega
  · omega
  · omega
theorem sc_S (hw : am_cw y cy ny ry n) (hl : Cond.methodLink own idx y ∈ am_tb) (hst : Cond.static y ∈ am_tb) (hd : decode cc pc = .ok (.invokestatic idx, 3)) : am_Sc cc own ret nL nm pc y cy ny ry (o_cs n) (pc + 3) := by
  refine ⟨?_, fun st h as st' hF => ⟨(am_cs_in hF).1, (am_cs_in hF).2.1⟩⟩
  intro p l e R s m args below meth c Q E n0 s0 d X lv st h as st' v h1 hF ok rm hM k H locs ls hR hL hS
  obtain ⟨-, -, hst2, hn, hcat⟩ := am_cs_in hF
  obtain ⟨hx, hb, hml, hown, hr, hlk, hnm, hT, hlow⟩ := X
  obtain ⟨r1, r2, r3, r4, r5, r6, r7, r8⟩ := rm
  refine am_of_run (a := (as.map (am_cv E)).toArray) (va_runS (As := as.map (am_cv E)) (rest := st'.map (am_cv E)) (Ts := []) ⟨hx, hb, hml, hown, fun w hw => by cases hw⟩ hM ⟨hw.B hT hl r7 r8, hT.2.1 _ hst _⟩ ⟨am_blind, fun U hU hW => ⟨rfl, by rw [hU]; exact hR, am_T.warm hW hT⟩⟩ rfl (by rw [List.length_map]; exact hn) hL.1 ?_ ?_ hd ⟨?_, ?_⟩) ⟨r1, r2, r3, r4⟩ hL hS k
  · rw [hst2, List.map_append, List.map_reverse]
  · rw [am_cats]; show 2 * 0 + _ ≤ 8; omega
  · omega
  · omega
theorem sc_SN {host : String} (hw : am_cw y cy ny ry n) (hl : Cond.methodLinkNest own idx y host ∈ am_tb) (hst : Cond.static y ∈ am_tb) (hd : decode cc pc = .ok (.invokestatic idx, 3)) : am_Sc cc own ret nL nm pc y cy ny ry (o_cs n) (pc + 3) := by
  refine ⟨?_, fun st h as st' hF => ⟨(am_cs_in hF).1, (am_cs_in hF).2.1⟩⟩
  intro p l e R s m args below meth c Q E n0 s0 d X lv st h as st' v h1 hF ok rm hM k H locs ls hR hL hS
  obtain ⟨-, -, hst2, hn, hcat⟩ := am_cs_in hF
  obtain ⟨hx, hb, hml, hown, hr, hlk, hnm, hT, hlow⟩ := X
  obtain ⟨r1, r2, r3, r4, r5, r6, r7, r8⟩ := rm
  refine am_of_run (a := (as.map (am_cv E)).toArray) (va_runSN (As := as.map (am_cv E)) (rest := st'.map (am_cv E)) (Ts := []) ⟨hx, hb, hml, hown, fun w hw => by cases hw⟩ hM ⟨hw.N hT hl r7 r8, hT.2.1 _ hst _, trivial⟩ ⟨am_blind, fun U hU hW => ⟨rfl, by rw [hU]; exact hR, am_T.warm hW hT⟩⟩ rfl (by rw [List.length_map]; exact hn) hL.1 ?_ ?_ hd ⟨?_, ?_⟩) ⟨r1, r2, r3, r4⟩ hL hS k
  · rw [hst2, List.map_append, List.map_reverse]
  · rw [am_cats]; show 2 * 0 + _ ≤ 8; omega
  · omega
  · omega
theorem sc_I {c0 : Nat} (hry : ry = none) (hnm : y.name = "<init>") (hw : am_cw y cy ny ry n) (hl : Cond.methodLink own idx y ∈ am_tb) (hin : Cond.instanceMethod y ∈ am_tb) (hd : decode cc pc = .ok (.invokespecial idx, 3)) : am_Sc cc own ret nL nm pc y cy ny ry (o_cv c0 n) (pc + 3) := by
  subst hry
  refine ⟨?_, fun st h as st' hF => by obtain ⟨a, bs, -, -, -, h1, h2, -⟩ := am_cv_in hF; exact ⟨h1, h2⟩⟩
  intro p l e R s m args below meth c Q E n0 s0 d X lv st h as st' v h1 hF ok rm hM k H locs ls hR hL hS
  obtain ⟨a, bs, rfl, ho, hn, -, -, hst, hcat⟩ := am_cv_in hF
  obtain ⟨hx, hb, hml, hown, hr, hlk, hnm2, hT, hlow⟩ := X
  obtain ⟨r1, r2, r3, r4, r5, r6, r7, r8⟩ := rm
  refine am_of_run (a := (Value.ref (E.2.2.1 + a.toNat) :: bs.map (am_cv E)).toArray) (va_runI (As := bs.map (am_cv E)) (rest := st'.map (am_cv E)) (b := E.2.2.1 + a.toNat) (Ts := []) ⟨hx, hb, hml, hown, fun w hw => by cases hw⟩ hM ⟨hw.B hT hl r7 r8, hnm, hT.2.1 _ hin _⟩ ⟨am_blind, fun U hU hW => ⟨?_, by rw [hU]; exact hR, am_T.warm hW hT⟩⟩ rfl (by rw [List.length_map]; exact hn) hL.1 ?_ ?_ hd ⟨?_, ?_⟩) ⟨r1, r2, r3, r4⟩ hL hS k
  · rw [List.map_cons, am_cv_ref ho.1]
  · rw [hst, List.map_append, List.map_reverse, List.map_cons, am_cv_ref ho.1]
  · rw [am_cats]; show 2 * 0 + _ ≤ 8; omega
  · omega
  · omega
theorem sc_IN {c0 : Nat} {host : String} (hry : ry = none) (hnm : y.name = "<init>") (hw : am_cw y cy ny ry n) (hl : Cond.methodLinkNest own idx y host ∈ am_tb) (hin : Cond.instanceMethod y ∈ am_tb) (hd : decode cc pc = .ok (.invokespecial idx, 3)) : am_Sc cc own ret nL nm pc y cy ny ry (o_cv c0 n) (pc + 3) := by
  subst hry
  refine ⟨?_, fun st h as st' hF => by obtain ⟨a, bs, -, -, -, h1, h2, -⟩ := am_cv_in hF; exact ⟨h1, h2⟩⟩
  intro p l e R s m args below meth c Q E n0 s0 d X lv st h as st' v h1 hF ok rm hM k H locs ls hR hL hS
  obtain ⟨a, bs, rfl, ho, hn, -, -, hst, hcat⟩ := am_cv_in hF
  obtain ⟨hx, hb, hml, hown, hr, hlk, hnm2, hT, hlow⟩ := X
  obtain ⟨r1, r2, r3, r4, r5, r6, r7, r8⟩ := rm
  refine am_of_run (a := (Value.ref (E.2.2.1 + a.toNat) :: bs.map (am_cv E)).toArray) (va_runIN (As := bs.map (am_cv E)) (rest := st'.map (am_cv E)) (b := E.2.2.1 + a.toNat) (Ts := []) ⟨hx, hb, hml, hown, fun w hw => by cases hw⟩ hM ⟨hw.N hT hl r7 r8, hnm, hT.2.1 _ hin _⟩ ⟨am_blind, fun U hU hW => ⟨?_, by rw [hU]; exact hR, am_T.warm hW hT⟩⟩ rfl (by rw [List.length_map]; exact hn) hL.1 ?_ ?_ hd ⟨?_, ?_⟩) ⟨r1, r2, r3, r4⟩ hL hS k
  · rw [List.map_cons, am_cv_ref ho.1]
  · rw [hst, List.map_append, List.map_reverse, List.map_cons, am_cv_ref ho.1]
  · rw [am_cats]; show 2 * 0 + _ ≤ 8; omega
  · omega
  · omega
end SC
