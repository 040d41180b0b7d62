/-! a run of the small machine is one of the real one: the theorem -/
def am_B (P : am_P) (I : am_I) (scr : Nat × (Nat → Int)) (n : Nat) : Prop :=
  ∀ (d f pc : Nat) (lv : am_Lv) (st : am_St) (h : am_H) (v : Option am_V) (hE : am_H), am_run P n d f pc lv st h = some (v, hE) → ∀ (y : MethodName) (cc : ByteArray) (nL : Nat) (ret : Option FieldType), I f = some (y, cc, nL, ret) →
  ∀ (p : Program) (l : Launch) (e : Env) (R : Room) (s : State) (m : MethodId) (args : Array Value) (below : List Frame) (meth : Method) (c : Code) (Q : State → Prop) (E : am_E) (n0 s0 : Nat), E.2.2.2.2.2 = scr → am_X E cc y.cls ret nL y.name p s m meth c → am_ok lv st h →
  (n0 ≤ h.1 ∧ s0 ≤ h.2.1 ∧ hE.1 - n0 ≤ R.cells ∧ hE.2.1 - s0 ≤ R.slots ∧ d + 1 ≤ R.frames ∧ 41 * (d + 1) ≤ R.locals ∧ s.heap.size = E.2.2.1 + n0) →
  (∀ (pc' : Nat) (st' : am_St) (F : am_St → Option (Option am_V)) (H : Heap) (locs : List Loc) (ls : Array Slot), P.1 f pc' = .inr (.inl F) → F st' = some v → am_HR E hE H → va_S (am_A E) s.heap H locs → W p l e R s m args below meth c H locs (hE.1 - n0) (hE.2.1 - s0) Q (F0 m pc' ls (st'.map (am_cv E)))) →
  am_G p l e R s m args below meth c Q E nL n0 s0 pc lv st h
/-- the kit's Met.ofW, for a method of any owner of which no native row is there -/
theorem am_ofW {l : Launch} {y : MethodName} {ws ws' : List Cond} {rm : Room} {Pc : Array Value → State → Prop} {Qc : Array Value → State → Outcome → State → Prop} {mc ms : Nat} {free : Addr → Prop} {cc : ByteArray} {maxL : Nat} {ret : Option FieldType} (hy : plainFor y = true) (hw : ws = Cond.code y cc maxL ret :: ws')
    (body : ∀ p e s m args below meth c s₁, BodyLoose p l y (headSpec ws rm) cc maxL ret e s m args below meth c s₁ → c.maxLocals = maxL → Pc args s → W p l e (headSpec ws rm).room s m args below meth c s.heap [] 0 0 (MQ below Qc args s mc ms free) (entryFrame m args maxL)) : Met l y ws rm Pc Qc mc ms free := by
  refine MetFree.of_bodySF (code := cc) (maxLocals := maxL) (ret := ret) hy ?_ ?_
  · intro args s m h hn
    have hm : Cond.code y cc maxL ret ∈ ws := by rw [hw]; exact List.mem_cons_self
    obtain ⟨meth, c, h1, h2, h3, h4, h5, h6, -, -⟩ := Cond.code_spec hn (atoms_spec (ws := ws) h _ hm)
    exact ⟨meth, c, h1, h2, h3, h4, h5, h6⟩
  · intro p e s m args below meth c s₁ B hml hP _
    have hh : s₁.heap = s.heap := by rw [B.state]; rfl
    obtain ⟨t, a1, o, b1, b2, b3⟩ := body p e s m args below meth c s₁ B hml hP s₁ hh (Stand.of_body B)
    exact ⟨t, o, a1, b1, b2, ⟨b3.1, b3.2⟩⟩
theorem am_met {P : am_P} {I : am_I} {scr : Nat × (Nat → Int)} (hP : am_OK P I scr) {n : Nat} (hB : am_B P I scr n) {l : Launch} {E : am_E} (hE : E.2.2.2.2.2 = scr) {d g : Nat} {as : List am_V} {h h1 : am_H} {v : Option am_V} {y : MethodName} {cc : ByteArray} {nL : Nat} {ret : Option FieldType} (hg : I g = some (y, cc, nL, ret)) (hl : (am_sl as).length ≤ P.2 g) (hr : am_run P n d g 0 (am_entry (P.2 g) as) [] h = some (v, h1)) (ha : ∀ u ∈ as, am_vr u) (hh : am_hr h ∧ am_kd h) : am_Met l E y cc nL ret d as h v h1 := by
  obtain ⟨p1, p2, p3⟩ := hP g y cc nL ret hg
  rw [p1] at hl hr
  have ok : am_ok (am_entry nL as) [] h := ⟨fun u hu => by simp at hu, fun i u hu => ha u (am_sl_in _ _ _ (am_entry_at hu)), hh⟩
  obtain ⟨-, o2, o3, -⟩ := am_run_ok hP _ _ _ _ _ _ _ _ _ _ hg hr ok
  refine am_ofW (cc := cc) (maxL := nL) (ret := ret) p2 rfl ?_
  intro p e s m args below meth c s₁ B hml hv
  obtain ⟨rfl, hR, hT⟩ := hv
  have X : am_X E cc y.cls ret nL y.name p s m meth c := ⟨B.exec, B.bytes, hml, findClass_of_methodNamed B.named, B.returns, B.notSynchronized, (name_of_methodNamed B.named B.method).1, hT, by rw [hR.1]; omega, hR.2.1⟩
  rw [lg_entry_eq]
  have k := hB d g 0 (am_entry nL as) [] h v h1 hr y cc nL ret hg p l e (headSpec [Cond.code y cc nL ret] (am_rmd d (h1.1 - h.1) (h1.2.1 - h.2.1))).room s m (as.map (am_cv E)).toArray below meth c (MQ below (am_Qc E h1 v) (as.map (am_cv E)).toArray s (h1.1 - h.1) (h1.2.1 - h.2.1) (am_A E)) E h.1 h.2.1 hE X ok ⟨Nat.le_refl _, Nat.le_refl _, Nat.le_refl _, Nat.le_refl _, Nat.le_refl _, Nat.le_refl _, hR.1⟩ (fun pc' st' F H locs ls hc hF hR' hS => ?_)
  · have kk := k s.heap [] _ hR (am_entry_LR hl) va_S.rf
    rw [Nat.sub_self, Nat.sub_self] at kk
    exact kk
  · have hat := p3 pc'
    rw [hc] at hat
    exact hat.1 p l e _ s m _ below meth c E y.cls y.name nL X st' h1 v H locs ls _ _ hF hR' hS
theorem am_body {P : am_P} {I : am_I} {scr : Nat × (Nat → Int)} (hP : am_OK P I scr) : ∀ n, am_B P I scr n := by
  intro n
  induction n with
  | zero => intro d f pc lv st h v hE hr; simp [am_run] at hr
  | succ n ih =>
    intro d f pc lv st h v hE hr y cc nL ret hI p l e R s m args below meth c Q E n0 s0 hs X ok rm hret
    have hfull := hr
    have hat := (hP f y cc nL ret hI).2.2 pc
    obtain ⟨m1, m2, m3, m4, m5, m6, m7⟩ := rm
    rw [am_run] at hr
    cases hc : P.1 f pc with
    | inl F =>
      rw [hc] at hat
      simp only [hc] at hr
      cases hF : F lv st h with
      | none => simp [hF] at hr
      | some x =>
        obtain ⟨pc', lv', st', h'⟩ := x
        simp only [hF] at hr
        obtain ⟨o1, o2, o3⟩ := (hat.2 _ _ _ _ _ _ _ hF).1 ok
        obtain ⟨-, q2, q3, -⟩ := am_run_ok hP _ _ _ _ _ _ _ _ _ _ hI hr o1
        exact hat.1 p l e R s m args below meth c Q E n0 s0 hs X lv st h pc' lv' st' h' hF ok ⟨m1, m2, by omega, by omega, by omega, by omega, m7⟩ (ih d f pc' lv' st' h' v hE hr y cc nL ret hI p l e R s m args below meth c Q E n0 s0 hs X o1 ⟨by omega, by omega, m3, m4, m5, m6, m7⟩ hret)
    | inr z =>
      cases z with
      | inl F =>
        simp only [hc] at hr
        cases hF : F st with
        | none => simp [hF] at hr
        | some x =>
          simp only [hF] at hr
          cases hr
          intro H locs ls hR hL hS
          exact hret pc st F H locs ls hc hF hR hS
      | inr z =>
        obtain ⟨g, F, nx⟩ := z
        rw [hc] at hat
        simp only [hc] at hr
        obtain ⟨yg, cg, ng, rg, hg, hsc⟩ := hat
        cases hF : F st h with
        | none => simp [hF] at hr
        | some x =>
          obtain ⟨as, st'⟩ := x
          simp only [hF] at hr
          cases d with
          | zero => simp at hr
          | succ d' =>
            simp only at hr
            by_cases hl : (am_sl as).length ≤ P.2 g
            · rw [if_pos hl] at hr
              cases hr2 : am_run P n d' g 0 (am_entry (P.2 g) as) [] h with
              | none => simp [hr2] at hr
              | some q2 =>
                obtain ⟨v1, h1⟩ := q2
                simp only [hr2] at hr
                have hin := hsc.2 _ _ _ _ hF
                have oka : am_ok (am_entry (P.2 g) as) [] h := ⟨fun u hu => by simp at hu, fun i u hu => ok.1 u (hin.1 u (am_sl_in _ _ _ (am_entry_at hu))), ok.2.2⟩
                obtain ⟨a1, a2, a3, a4⟩ := am_run_ok hP _ _ _ _ _ _ _ _ _ _ hg hr2 oka
                have okb : am_ok lv (v1.toList ++ st') h1 := ⟨fun u hu => by
                  rcases List.mem_append.mp hu with z | z
                  · cases v1 with
                    | none => simp at z
                    | some w => simp at z; subst z; exact a4 u rfl
                  · exact ok.1 u (hin.2 u z), ok.2.1, a1.1, a1.2⟩
                obtain ⟨-, b2, b3, -⟩ := am_run_ok hP _ _ _ _ _ _ _ _ _ _ hI hr okb
                exact hsc.1 p l e R s m args below meth c Q E n0 s0 d' X lv st h as st' v1 h1 hF ok ⟨m1, m2, a2, a3, by omega, by omega, by omega, by omega⟩ (am_met hP ih hs hg hl hr2 (fun u hu => ok.1 u (hin.1 u hu)) ok.2.2) (ih (d' + 1) f nx lv (v1.toList ++ st') h1 v hE hr y cc nL ret hI p l e R s m args below meth c Q E n0 s0 hs X okb ⟨by omega, by omega, m3, m4, m5, m6, m7⟩ hret)
            · rw [if_neg hl] at hr
              cases hr
