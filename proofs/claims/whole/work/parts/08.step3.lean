/-! one step of the small machine is one of the real one: fields, rows, makings -/
def am_Cl (c : Nat) (C : String) (T : u_T) (N : Nat) (ty : Nat → FieldType) : Prop := am_cl_[c]? = some (C, T, N) ∧ (∀ w ∈ u_ws C T N, w ∈ am_tb) ∧ (∀ k, k < N → parseFieldDescriptor (T k).2.2.1 = some (ty k)) ∧ (∀ a, a < N → ∀ b, b < N → a ≠ b → (T a).2.1 ≠ (T b).2.1) ∧ ∀ k, k < N → (am_ft c k = 1 ↔ ty k = .long) ∧ (am_ft c k = 0 ↔ (ty k = .int ∨ ty k = .boolean))
theorem am_o_at {E : am_E} {h : am_H} {a : Int} {c N : Nat} {C : String} {T : u_T} {ty : Nat → FieldType} (hC : am_Cl c C T N ty) (hk : am_kd h) (ho : am_isO h a c) : a.toNat < h.1 ∧ (h.2.2.1 a.toNat).2 = N ∧ (am_ws E h)[a.toNat]? = some (E.2.2.1 + a.toNat, .inr (c, (List.range N).map (fun j => am_fv E.2.2.1 (am_ft c j) (h.2.2.2 a.toNat j)))) := by
  obtain ⟨h0, h1⟩ := ho
  obtain ⟨k1, k2⟩ := hk a.toNat (by omega)
  obtain ⟨q, e1, e2⟩ := k2 (by omega)
  rw [h1, show c + 10 - 10 = c by omega, hC.1] at e1
  cases e1
  refine ⟨k1, e2.symm, ?_⟩
  rw [am_ws_get k1, am_ce_o h1, ← e2]
theorem am_HR.set {E : am_E} {h h' : am_H} {H H1 : Heap} {a : Nat} (hR : am_HR E h H) (ha : a < h.1) (h1 : h'.1 = h.1) (hk : h'.2.2.1 = h.2.2.1) (hd : ∀ b j, b ≠ a → h'.2.2.2 b j = h.2.2.2 b j) (he : va_at E.1 am_cl_ (E.2.2.1 + a, am_ce E h' a) H1) (hz : H1.size = H.size) (ho : ∀ q, q ≠ E.2.2.1 + a → H1[q]? = H[q]?) : am_HR E h' H1 := by
  obtain ⟨g1, g2, g3⟩ := hR
  refine ⟨by rw [hz, h1]; exact g1, fun q hq => by rw [ho q (by omega)]; exact g2 q hq, ?_⟩
  rw [← am_ws_set h1 hk hd]
  exact va_P.set g3 am_ws_D (am_ws_get ha) he ho
theorem am_put_ne {h : am_H} {a i : Nat} {x : Int} (b j : Nat) (hb : b ≠ a) : (am_put h a i x).2.2.2 b j = h.2.2.2 b j := by
  unfold am_put
  simp [hb]
section AMS3
variable {cc : ByteArray} {own nm : String} {ret : Option FieldType} {nL pc : Nat} {scr : Nat × (Nat → Int)} {c0 k0 N idx : Nat} {C : String} {T : u_T} {ty : Nat → FieldType}
theorem am_fs_at {b0 c0 k0 N : Nat} {z : Nat → Int} (hk : k0 < N) : ((List.range N).map (fun j => am_fv b0 (am_ft c0 j) (z j)))[k0]? = some (am_fv b0 (am_ft c0 k0) (z k0)) := by simp [hk]
theorem am_fv_r {E : am_E} {t : Nat} {x : Int} (ht : t = 2) (hx : -1 ≤ x) : am_fv E.2.2.1 t x = am_cv E (.inr (.inr x)) := by
  subst ht
  rw [am_cv_fr hx]
  rfl
theorem am_hr_o {h : am_H} {a c k N : Nat} (hr : am_hr h) (ho : (h.2.2.1 a).1 = c + 10) (hN : (h.2.2.1 a).2 = N) (hk : k < N) : (if am_ft c k = 0 then am_w (h.2.2.2 a k) = h.2.2.2 a k else if am_ft c k = 1 then am_W (h.2.2.2 a k) = h.2.2.2 a k else -1 ≤ h.2.2.2 a k) := by
  have := hr a k (by omega)
  unfold am_xr at this
  rw [ho, if_pos (by omega), show c + 10 - 10 = c by omega] at this
  exact this
/-- a field is read: any sort -/
theorem am_get1 {p : Program} {l : Launch} {e : Env} {R : Room} {s : State} {m : MethodId} {args : Array Value} {below : List Frame} {meth : Method} {c : Code} {Q : State → Prop} {E : am_E} {H : Heap} {locs : List Loc} {cells slots : Nat} {ls : Array Slot} {rest : List Value} {h : am_H} {a : Int} {v : Value}
    (hC : am_Cl c0 C T N ty) (hk : k0 < N) (hl : Cond.fieldLink own idx (T k0).1 (T k0).2.1 (T k0).2.2.1 ∈ am_tb ∨ ∃ host, Cond.fieldLinkNest own idx (T k0).1 (T k0).2.1 (T k0).2.2.1 host ∈ am_tb) (hd : decode cc pc = .ok (.getfield idx, 3)) (X : am_X E cc own ret nL nm p s m meth c) (hkd : am_kd h) (hR : am_HR E h H) (ho : am_isO h a c0) (hv : am_fv E.2.2.1 (am_ft c0 k0) (h.2.2.2 a.toNat k0) = v)
    (kk : W p l e R s m args below meth c H locs cells slots Q (F0 m (pc + 3) ls (v :: rest))) : W p l e R s m args below meth c H locs cells slots Q (F0 m pc ls (am_cv E (.inr (.inr a)) :: rest)) := by
  obtain ⟨hx, hb, hml, hown, hr, hlk, hnm, hT, hlow⟩ := X
  obtain ⟨k1, k2, k3⟩ := am_o_at (E := E) hC hkd ho
  rw [am_cv_ref ho.1]
  subst hv
  rcases hl with hl | ⟨host, hl⟩
  · exact va_get hx hb (fun w hw => hT.2.1 w hw args) hC.2.1 hown hT.2.2.1 hR.2.2 a.toNat k3 hC.1 k0 hk (hT.2.1 _ hl args) (fun _ z => z) (am_fs_at hk) hd kk
  · exact va_getN hx hb (fun w hw => hT.2.1 w hw args) hC.2.1 hown hT.2.2.1 hR.2.2 a.toNat k3 hC.1 k0 hk (hT.2.1 _ hl args) (fun _ z => z) (am_fs_at hk) hd kk
theorem sn_getI (hC : am_Cl c0 C T N ty) (hk : k0 < N) (hf : am_ft c0 k0 = 0) (hl : Cond.fieldLink own idx (T k0).1 (T k0).2.1 (T k0).2.2.1 ∈ am_tb ∨ ∃ host, Cond.fieldLinkNest own idx (T k0).1 (T k0).2.1 (T k0).2.2.1 host ∈ am_tb) (hd : decode cc pc = .ok (.getfield idx, 3)) : am_Sn cc own ret nL nm scr pc (o_getI c0 k0 (pc + 3)) := by
  intro p l e R s m args below meth c Q E n0 s0 hscr X lv st h pc' lv' st' h' hF ok rm k H locs ls hR hL hS
  unfold o_getI at hF
  split at hF
  · split at hF
    · rename_i ho
      cases hF
      exact am_get1 hC hk hl hd X ok.2.2.2 hR ho (by rw [hf]; rfl) (k H locs ls hR hL hS)
    · cases hF
  · cases hF
theorem sn_getL (hC : am_Cl c0 C T N ty) (hk : k0 < N) (hf : am_ft c0 k0 = 1) (hl : Cond.fieldLink own idx (T k0).1 (T k0).2.1 (T k0).2.2.1 ∈ am_tb ∨ ∃ host, Cond.fieldLinkNest own idx (T k0).1 (T k0).2.1 (T k0).2.2.1 host ∈ am_tb) (hd : decode cc pc = .ok (.getfield idx, 3)) : am_Sn cc own ret nL nm scr pc (o_getL c0 k0 (pc + 3)) := by
  intro p l e R s m args below meth c Q E n0 s0 hscr X lv st h pc' lv' st' h' hF ok rm k H locs ls hR hL hS
  unfold o_getL at hF
  split at hF
  · split at hF
    · rename_i ho
      cases hF
      exact am_get1 hC hk hl hd X ok.2.2.2 hR ho (by rw [hf]; rfl) (k H locs ls hR hL hS)
    · cases hF
  · cases hF
theorem sn_getR (hC : am_Cl c0 C T N ty) (hk : k0 < N) (hf : am_ft c0 k0 = 2) (hl : Cond.fieldLink own idx (T k0).1 (T k0).2.1 (T k0).2.2.1 ∈ am_tb ∨ ∃ host, Cond.fieldLinkNest own idx (T k0).1 (T k0).2.1 (T k0).2.2.1 host ∈ am_tb) (hd : decode cc pc = .ok (.getfield idx, 3)) : am_Sn cc own ret nL nm scr pc (o_getR c0 k0 (pc + 3)) := by
  intro p l e R s m args below meth c Q E n0 s0 hscr X lv st h pc' lv' st' h' hF ok rm k H locs ls hR hL hS
  unfold o_getR at hF
  split at hF
  · split at hF
    · rename_i ho
      cases hF
      have hx := am_hr_o ok.2.2.1 ho.2 (am_o_at (E := E) hC ok.2.2.2 ho).2.1 hk
      rw [hf, if_neg (by decide), if_neg (by decide)] at hx
      exact am_get1 hC hk hl hd X ok.2.2.2 hR ho (am_fv_r hf hx) (k H locs ls hR hL hS)
    · cases hF
  · cases hF
/-- a field is written: any sort -/
theorem am_put1 {p : Program} {l : Launch} {e : Env} {R : Room} {s : State} {m : MethodId} {args : Array Value} {below : List Frame} {meth : Method} {c : Code} {Q : State → Prop} {E : am_E} {H : Heap} {locs : List Loc} {cells slots : Nat} {ls : Array Slot} {rest : List Value} {h : am_H} {a x : Int} {v : Value}
    (hC : am_Cl c0 C T N ty) (hk : k0 < N) (hl : (Cond.fieldLink own idx (T k0).1 (T k0).2.1 (T k0).2.2.1 ∈ am_tb ∧ ((T k0).2.2.2 = false ∨ ((T k0).2.2.2 = true ∧ nm = "<init>" ∧ (T k0).1 = own))) ∨ ((T k0).2.2.2 = false ∧ ∃ host, Cond.fieldLinkNest own idx (T k0).1 (T k0).2.1 (T k0).2.2.1 host ∈ am_tb)) (hd : decode cc pc = .ok (.putfield idx, 3)) (X : am_X E cc own ret nL nm p s m meth c) (hkd : am_kd h) (hR : am_HR E h H) (hS : va_S (am_A E) s.heap H locs) (ho : am_isO h a c0) (hv : am_fv E.2.2.1 (am_ft c0 k0) x = v) (hn : narrow (ty k0) v = v) (hfit : fits (ty k0) v = true)
    (kk : ∀ (H1 : Heap) (locs1 : List Loc), am_HR E (am_put h a.toNat k0 x) H1 → va_S (am_A E) s.heap H1 locs1 → W p l e R s m args below meth c H1 locs1 cells slots Q (F0 m (pc + 3) ls rest)) : W p l e R s m args below meth c H locs cells slots Q (F0 m pc ls (v :: am_cv E (.inr (.inr a)) :: rest)) := by
  obtain ⟨hx, hb, hml, hown, hr, hlk, hnm, hT, hlow⟩ := X
  obtain ⟨b1, b2, b3⟩ := am_o_at (E := E) hC hkd ho
  have hts : ∀ w ∈ am_tb, w.before args s = true := fun w hw => hT.2.1 w hw args
  rw [am_cv_ref ho.1]
  have hap := va_apart (own := own) hts hC.2.1 ty hC.2.2.1 hC.2.2.2.1 hT.2.2.1 hC.1
  obtain ⟨r, h1, cell, q1, q2, q3, q4⟩ := hR.2.2 a.toNat _ b3
  have hr' : r = (C, T, N) := Option.some.inj (h1.symm.trans hC.1)
  subst hr'
  obtain ⟨hSl, hfc, kC, hkC, hkind⟩ := hT.2.2.1.1 c0 _ hC.1
  obtain ⟨cf, kf, fi, f, hi, hsl⟩ := hSl k0 hk
  have hst := (u_facts hfc hkC (u_lays hts hC.2.1 hk) hi).1
  have hd1 := hC.2.2.1 k0 hk
  have hfin : ∀ (H' : Heap), H'[E.2.2.1 + a.toNat]? = some (cell.setSlot (E.1.2 c0 k0) v) → H'.size = H.size → (∀ q, q ≠ E.2.2.1 + a.toNat → H'[q]? = H[q]?) → W p l e R s m args below meth c H' (locs ++ [⟨E.2.2.1 + a.toNat, E.1.2 c0 k0⟩]) cells slots Q (F0 m (pc + 3) ls rest) := by
    intro H' e1 e2 e3
    refine kk H' _ (hR.set b1 rfl rfl (fun b j hb => am_put_ne b j hb) ?_ e2 e3) (hS.put e2 e3 (show E.2.2.1 ≤ _ by omega))
    rw [am_ce_o (c := c0) (show ((am_put h a.toNat k0 x).2.2.1 a.toNat).1 = c0 + 10 from ho.2)]
    refine ⟨_, hC.1, t_OB.to (V := updV (vp_V ((List.range N).map (fun j => am_fv E.2.2.1 (am_ft c0 j) (h.2.2.2 a.toNat j)))) k0 v) ⟨_, e1, q2, q3, t_set q4 hap hk v⟩ (fun j hj => ?_)⟩
    have e9 : ((am_put h a.toNat k0 x).2.2.1 a.toNat).2 = N := b2
    rw [e9]
    show updV _ k0 v j = vp_V _ j
    unfold updV vp_V
    have hjN : j < N := hj
    by_cases e : j = k0
    · subst e
      simp [hjN, am_put, hv]
    · simp [hjN, e, am_put]
  rcases hl with ⟨hl, hfl⟩ | ⟨hfl, host, hl⟩
  · rcases hfl with hfl | ⟨hfl, hn2, hdecl⟩
    · have hlay := hts _ (hC.2.1 _ (u_in_lay hk))
      unfold u_lay at hlay
      rw [if_neg (by rw [hfl]; decide)] at hlay
      have h6 := u_store hfc hkC hkind hlay hi hd1 hn hfit
      refine W.putK hx hb (f := f) ⟨hown, hts _ hl, ⟨_, _, _, hi⟩, hst⟩ (by rw [q2]; exact h6) q1 q3 (by rw [hsl]; exact k2_hasslot (q4 k0 hk)) rfl rfl hd fun H' e1 e2 e3 => ?_
      rw [hsl] at e1 ⊢
      exact hfin H' e1 e2 e3
    · have hlay := hts _ (hC.2.1 _ (u_in_lay hk))
      unfold u_lay at hlay
      rw [if_pos hfl] at hlay
      have hcf : m.cls = cf := by
        obtain ⟨_, _, c', _, _, _, -, -, hf', -, -, -, hown2, -⟩ := Cond.laysFinal_spec hlay
        have e1 : c' = cf := by have := hi.symm.trans hf'; simp at this; exact this.1.symm
        rw [hdecl] at hown2
        rw [← e1]; exact Option.some.inj (hown.symm.trans hown2)
      have h6 := u_fits hfc hkC hkind (Or.inr hlay) hi hd1 hn hfit
      refine W.putFinK hx hb hown (hts _ hl) hi hst hcf (hnm.trans hn2) (by rw [q2]; exact h6) q1 q3 (by rw [hsl]; exact k2_hasslot (q4 k0 hk)) rfl rfl hd fun H' e1 e2 e3 => ?_
      rw [hsl] at e1 ⊢
      exact hfin H' e1 e2 e3
  · have hlay := hts _ (hC.2.1 _ (u_in_lay hk))
    unfold u_lay at hlay
    rw [if_neg (by rw [hfl]; decide)] at hlay
    have h6 := u_store hfc hkC hkind hlay hi hd1 hn hfit
    refine va_WputK hx hb (f := f) hown (hts _ hl) hi hst (by rw [q2]; exact h6) q1 q3 (by rw [hsl]; exact k2_hasslot (q4 k0 hk)) rfl rfl hd fun H' e1 e2 e3 => ?_
    rw [hsl] at e1 ⊢
    exact hfin H' e1 e2 e3
end AMS3
