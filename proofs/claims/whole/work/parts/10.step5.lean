/-! one step of the small machine is one of the real one: rows written, makings -/
section AMS5
variable {cc : ByteArray} {own nm : String} {ret : Option FieldType} {nL pc : Nat} {scr : Nat × (Nat → Int)} {c0 k0 N idx : Nat} {C : String} {T : u_T} {ty : Nat → FieldType}
theorem sn_iast (hd : decode cc pc = .ok (.iastore, 1)) : am_Sn cc own ret nL nm scr pc (o_iast (pc + 1)) := by
  intro p l e R s m args below meth c Q E n0 s0 hscr X lv st h pc' lv' st' h' hF ok rm k H locs ls hR hL hS
  unfold o_iast at hF
  split at hF
  · rename_i x i a r
    split at hF
    · rename_i ho
      cases hF
      have hi : am_w i = i := ok.1 (.inl i) (by simp)
      have ha := am_a_at (by decide) ok.2.2.2 ho
      have hw := (am_ws_get (E := E) ha).trans (by rw [am_ce_i ho.2.1 (Or.inl rfl)])
      have hK := X.2.2.2.2.2.2.2.1.2.2.1
      have hin := am_vpin hi ho.2.2.1 ho.2.2.2
      rw [List.map_cons, List.map_cons, List.map_cons, am_cv_ref ho.1]
      refine W.iast X.1 X.2.1 (hR.2.2 a.toNat _ hw) ((hK.2 1 _ (am_ty_at (by decide) (by decide))).1 _ (fun j => .int (Int32.ofInt (h.2.2.2 a.toNat j)))) (fun q => by cases q) (by show ¬ (Int32.ofInt i < 0 ∨ (arrV _ _ _).slots.size ≤ _); rw [arrV_size]; exact hin) rfl rfl hd fun H1 e1 z oq => ?_
      refine k H1 _ ls (hR.set ha rfl rfl (fun b j hb => am_put_ne b j hb) ?_ z oq) hL (hS.put z oq (show E.2.2.1 ≤ _ by omega))
      rw [am_ce_i (t := 1) (show ((am_put h a.toNat i.toNat x).2.2.1 a.toNat).1 = 1 from ho.2.1) (Or.inl rfl)]
      show H1[_]? = some (vp_cell _ _)
      rw [e1, vp_cell_i, vp_cell_i, arrV_store, am_clamp hi]
      congr 2
      funext q
      by_cases hq : q = i.toNat
      · subst hq; simp [updV, am_put]
      · simp [updV, am_put, hq]
    · cases hF
  · cases hF
theorem sn_last (hd : decode cc pc = .ok (.lastore, 1)) : am_Sn cc own ret nL nm scr pc (o_last (pc + 1)) := by
  intro p l e R s m args below meth c Q E n0 s0 hscr X lv st h pc' lv' st' h' hF ok rm k H locs ls hR hL hS
  unfold o_last at hF
  split at hF
  · rename_i x i a r
    split at hF
    · rename_i ho
      cases hF
      have hi : am_w i = i := ok.1 (.inl i) (by simp)
      have ha := am_a_at (by decide) ok.2.2.2 ho
      have hw := (am_ws_get (E := E) ha).trans (by rw [am_ce_l ho.2.1])
      have hK := X.2.2.2.2.2.2.2.1.2.2.1
      have hin := am_vpin hi ho.2.2.1 ho.2.2.2
      rw [List.map_cons, List.map_cons, List.map_cons, am_cv_ref ho.1]
      refine W.last X.1 X.2.1 (hR.2.2 a.toNat _ hw) ((hK.2 2 _ (am_ty_at (by decide) (by decide))).1 _ (fun j => .long (Int64.ofInt (h.2.2.2 a.toNat j)))) (fun q => by cases q) (by show ¬ (Int32.ofInt i < 0 ∨ (arrV _ _ _).slots.size ≤ _); rw [arrV_size]; exact hin) rfl rfl hd fun H1 e1 z oq => ?_
      refine k H1 _ ls (hR.set ha rfl rfl (fun b j hb => am_put_ne b j hb) ?_ z oq) hL (hS.put z oq (show E.2.2.1 ≤ _ by omega))
      rw [am_ce_l (show ((am_put h a.toNat i.toNat x).2.2.1 a.toNat).1 = 2 from ho.2.1)]
      show H1[_]? = some (vp_cell _ _)
      rw [e1, vp_cell_l, vp_cell_l, arrV_store, am_clamp hi]
      congr 2
      funext q
      by_cases hq : q = i.toNat
      · subst hq; simp [updV, am_put]
      · simp [updV, am_put, hq]
    · cases hF
  · cases hF
theorem sn_bast (hd : decode cc pc = .ok (.bastore, 1)) : am_Sn cc own ret nL nm scr pc (o_bast (pc + 1)) := by
  intro p l e R s m args below meth c Q E n0 s0 hscr X lv st h pc' lv' st' h' hF ok rm k H locs ls hR hL hS
  unfold o_bast at hF
  split at hF
  · rename_i x i a r
    split at hF
    · rename_i ho
      cases hF
      have hi : am_w i = i := ok.1 (.inl i) (by simp)
      have ha := am_a_at (by decide) ok.2.2.2 ho
      have hw := (am_ws_get (E := E) ha).trans (by rw [am_ce_i ho.2.1 (Or.inr (Or.inl rfl))])
      have hK := X.2.2.2.2.2.2.2.1.2.2.1
      have hin := am_vpin hi ho.2.2.1 ho.2.2.2
      rw [List.map_cons, List.map_cons, List.map_cons, am_cv_ref ho.1]
      refine W.bast X.1 X.2.1 (hR.2.2 a.toNat _ hw) ((hK.2 3 _ (am_ty_at (by decide) (by decide))).1 _ (fun j => .int (Int32.ofInt (h.2.2.2 a.toNat j)))) (fun q => by cases q) (by show ¬ (Int32.ofInt i < 0 ∨ (arrV _ _ _).slots.size ≤ _); rw [arrV_size]; exact hin) rfl rfl hd fun H1 e1 z oq => ?_
      refine k H1 _ ls (hR.set ha rfl rfl (fun b j hb => am_put_ne b j hb) ?_ z oq) hL (hS.put z oq (show E.2.2.1 ≤ _ by omega))
      rw [am_ce_i (t := 3) (show ((am_put h a.toNat i.toNat (Int.bmod x 256)).2.2.1 a.toNat).1 = 3 from ho.2.1) (Or.inr (Or.inl rfl))]
      show H1[_]? = some (vp_cell _ _)
      rw [e1, vp_cell_i, vp_cell_i, arrV_store, am_clamp hi]
      congr 2
      funext q
      by_cases hq : q = i.toNat
      · subst hq
        simp only [updV, am_put, if_true, and_self]
        rw [← am_i2b', ← vp_nar_byte]
        rfl
      · simp [updV, am_put, hq]
    · cases hF
  · cases hF
theorem sn_zast (hd : decode cc pc = .ok (.bastore, 1)) : am_Sn cc own ret nL nm scr pc (o_zast (pc + 1)) := by
  intro p l e R s m args below meth c Q E n0 s0 hscr X lv st h pc' lv' st' h' hF ok rm k H locs ls hR hL hS
  unfold o_zast at hF
  split at hF
  · rename_i x i a r
    split at hF
    · rename_i ho0
      cases hF
      have ho := ho0.1
      have hi : am_w i = i := ok.1 (.inl i) (by simp)
      have ha := am_a_at (by decide) ok.2.2.2 ho
      have hw := (am_ws_get (E := E) ha).trans (by rw [am_ce_i ho.2.1 (Or.inr (Or.inr rfl))])
      have hK := X.2.2.2.2.2.2.2.1.2.2.1
      have hin := am_vpin hi ho.2.2.1 ho.2.2.2
      rw [List.map_cons, List.map_cons, List.map_cons, am_cv_ref ho.1]
      refine W.zast X.1 X.2.1 (hR.2.2 a.toNat _ hw) ((hK.2 4 _ (am_ty_at (by decide) (by decide))).1 _ (fun j => .int (Int32.ofInt (h.2.2.2 a.toNat j)))) (fun q => by cases q) (by show ¬ (Int32.ofInt i < 0 ∨ (arrV _ _ _).slots.size ≤ _); rw [arrV_size]; exact hin) rfl rfl hd fun H1 e1 z oq => ?_
      refine k H1 _ ls (hR.set ha rfl rfl (fun b j hb => am_put_ne b j hb) ?_ z oq) hL (hS.put z oq (show E.2.2.1 ≤ _ by omega))
      rw [am_ce_i (t := 4) (show ((am_put h a.toNat i.toNat x).2.2.1 a.toNat).1 = 4 from ho.2.1) (Or.inr (Or.inr rfl))]
      show H1[_]? = some (vp_cell _ _)
      rw [e1, vp_cell_i, vp_cell_i, arrV_store, am_clamp hi]
      congr 2
      funext q
      by_cases hq : q = i.toNat
      · subst hq
        simp only [updV, am_put, if_true, and_self]
        exact (am_z01 ho0.2).1
      · simp [updV, am_put, hq]
    · cases hF
  · cases hF
theorem am_up_ro {b0 i : Nat} {z : Nat → Int} {x : Int} (hx : 0 ≤ x) : (fun j => va_rf (am_ro b0 (if j = i then x else z j))) = fun j => va_rf (if j = i then some (b0 + x.toNat) else am_ro b0 (z j)) := by
  funext j
  by_cases e : j = i
  · simp [e, am_ro, hx]
  · simp [e]
theorem sn_aast {t : Nat} (ht : (t = 5 ∧ C = "SnorePlay$Play") ∨ (t = 6 ∧ C = "SnorePlay$Tray")) (hC : am_Cl c0 C T N ty) (hd : decode cc pc = .ok (.aastore, 1)) : am_Sn cc own ret nL nm scr pc (o_aast t c0 (pc + 1)) := by
  intro p l e R s m args below meth c Q E n0 s0 hscr X lv st h pc' lv' st' h' hF ok rm k H locs ls hR hL hS
  unfold o_aast at hF
  split at hF
  · rename_i x i a r
    split at hF
    · rename_i ho0
      cases hF
      obtain ⟨ho, hox⟩ := ho0
      have ht2 : 5 ≤ t ∧ t ≤ 7 := by omega
      have hi : am_w i = i := ok.1 (.inl i) (by simp)
      have ha := am_a_at (by omega) ok.2.2.2 ho
      have hw := (am_ws_get (E := E) ha).trans (by rw [am_ce_r ho.2.1 ht2])
      have hK := X.2.2.2.2.2.2.2.1.2.2.1
      have hin := am_vpin hi ho.2.2.1 ho.2.2.2
      have hlt : i.toNat < (h.2.2.1 a.toNat).2 := by have := ho.2.2; omega
      have h0 : ¬ Int32.ofInt i < 0 := fun q => hin (Or.inl q)
      obtain ⟨v1, v2, v3⟩ := am_o_at (E := E) hC ok.2.2.2 hox
      obtain ⟨r', hr', cellV, g1, g2, g3, -⟩ := hR.2.2 x.toNat _ v3
      have hcls := (hK.1 c0 _ hC.1).2
      have hT0 : ∃ (kA : Class) (comp : ClassId), s.vm.classes[E.2.1 t]? = some kA ∧ kA.kind = .array comp (.object C) ∧ s.vm.findClass C = some comp := by
        have hq := (hK.2 t _ (am_ty_at (by omega) (by omega))).2
        rcases ht with ⟨z1, z2⟩ | ⟨z1, z2⟩ <;> subst z1 <;> subst z2 <;> obtain ⟨kA, comp, k1, k2, k3, -⟩ := hq <;> exact ⟨kA, comp, k1, k2, k3⟩
      obtain ⟨kA, comp, k1, k2, k3⟩ := hT0
      have hcomp : comp = E.1.1 c0 := Option.some.inj (k3.symm.trans hcls.1)
      subst hcomp
      obtain ⟨kC, hkC, -⟩ := hcls.2
      rw [List.map_cons, List.map_cons, List.map_cons, am_cv_ref ho.1, am_cv_ref hox.1]
      refine W.aast X.1 X.2.1 (hR.2.2 a.toNat _ hw) (fun q h => by cases h) (fun h => by cases h) k1 k2 rfl hkC ⟨h0, by show _ < (arrV _ _ _).slots.size; rw [arrV_size, am_clamp hi]; exact hlt⟩ g1 (fun q h => by rw [g3] at h; cases h) (by rw [g2]; exact hkC) (by rw [g2]; exact va_assign hcls) rfl rfl hd fun H1 e1 z oq => ?_
      refine k H1 _ ls (hR.set ha rfl rfl (fun b j hb => am_put_ne b j hb) ?_ z oq) hL (hS.put z oq (show E.2.2.1 ≤ _ by omega))
      rw [am_ce_r (t := t) (show ((am_put h a.toNat i.toNat x).2.2.1 a.toNat).1 = t from ho.2.1) ht2]
      show H1[_]? = some (vp_cell _ _)
      rw [e1, vp_cell_q, vp_cell_q, arrV_store, am_clamp hi]
      congr 2
      funext q
      by_cases hq : q = i.toNat
      · subst hq; simp [updV, am_put, am_ro, hox.1, va_rf]
      · simp [updV, am_put, hq]
    · cases hF
  · cases hF
theorem sn_alen (hd : decode cc pc = .ok (.arraylength, 1)) : am_Sn cc own ret nL nm scr pc (o_alen (pc + 1)) := by
  intro p l e R s m args below meth c Q E n0 s0 hscr X lv st h pc' lv' st' h' hF ok rm k H locs ls hR hL hS
  unfold o_alen at hF
  split at hF
  · rename_i a r
    split at hF
    · rename_i ho
      cases hF
      have ha : a.toNat < h.1 := (ok.2.2.2 a.toNat (by omega)).1
      have hK := X.2.2.2.2.2.2.2.1.2.2.1
      have kk := k H locs ls hR hL hS
      rw [List.map_cons, am_cv_ref ho.1]
      have hw : ∃ x : vp_A, (am_ws E h)[a.toNat]? = some (E.2.2.1 + a.toNat, .inl (E.2.1 (h.2.2.1 a.toNat).1, x)) ∧ x.1 = (h.2.2.1 a.toNat).2 := by
        rw [am_ws_get ha]
        unfold am_ce
        rw [if_neg (by omega)]
        exact ⟨_, rfl, rfl⟩
      obtain ⟨x, hw, hx⟩ := hw
      exact va_alen X.1 X.2.1 hK hR.2.2 a.toNat (h.2.2.1 a.toNat).1 hw (am_ty_at (by omega) (by omega)) (by rw [hx]; exact Int32.ofInt_eq_ofNat.symm) hd kk
    · cases hF
  · cases hF
-- makings
theorem am_HR.push {E : am_E} {h : am_H} {H H1 : Heap} {kd n : Nat} {z : Nat → Int} (hR : am_HR E h H) (he : va_at E.1 am_cl_ (E.2.2.1 + h.1, am_ce E (am_mk h kd n z) h.1) H1) (hz : H1.size = H.size + 1) (ho : ∀ q, q < H.size → H1[q]? = H[q]?) : am_HR E (am_mk h kd n z) H1 := by
  obtain ⟨g1, g2, g3⟩ := hR
  refine ⟨by rw [hz, g1]; rfl, fun q hq => by rw [ho q (by omega)]; exact g2 q hq, ?_⟩
  rw [am_ws_push]
  refine (g3.kept (fun k q hk => ho q.1 ((g3 k q hk).lt))).app (fun k q hk => ?_)
  have hz : k < 1 := (List.getElem?_eq_some_iff.mp hk).1
  rw [show k = 0 by omega] at hk
  cases hk
  exact he
theorem am_S_push {E : am_E} {H0 H H1 : Heap} {locs : List Loc} (hS : va_S (am_A E) H0 H locs) (hz : H1.size = H.size + 1) (ho : ∀ q, q < H.size → H1[q]? = H[q]?) : va_S (am_A E) H0 H1 locs := ⟨by have := hS.1; omega, fun x h1 h2 => (ho x (Nat.lt_of_lt_of_le h1 hS.1)).trans (hS.2.1 x h1 h2), hS.2.2⟩
theorem am_mk_k {h : am_H} {kd n : Nat} {z : Nat → Int} : (am_mk h kd n z).2.2.1 h.1 = (kd, n) := by simp [am_mk]
theorem am_mk_d {h : am_H} {kd n : Nat} {z : Nat → Int} (i : Nat) : (am_mk h kd n z).2.2.2 h.1 i = z i := by simp [am_mk]
theorem sn_new {z : Nat → Int} (hC : am_Cl c0 C T N ty) (hz0 : ∀ j, j < N → defaultValue (ty j) = am_fv 0 (am_ft c0 j) (z j) ∧ (am_ft c0 j = 2 → z j = -1)) (hft : ∀ j, j < N → am_ft c0 j ≤ 2) (hl : Cond.classLink own idx C ∈ am_tb) (hin : Cond.instantiable C N ∈ am_tb) (hini : Cond.initialized C ∈ am_tb) (hd : decode cc pc = .ok (.new idx, 3)) : am_Sn cc own ret nL nm scr pc (o_new c0 N z (pc + 3)) := by
  intro p l e R s m args below meth c Q E n0 s0 hscr X lv st h pc' lv' st' h' hF ok rm k H locs ls hR hL hS
  cases hF
  obtain ⟨hx, hb, hml, hown, hr, hlk, hnm, hT, hlow⟩ := X
  have hts : ∀ w ∈ am_tb, w.before args s = true := fun w hw => hT.2.1 w hw args
  have hKn := hT.2.2.1.1 c0 _ hC.1
  obtain ⟨r1, r2, r3, r4, -⟩ := rm
  have r3 : h.1 + 1 - n0 ≤ R.cells := r3
  have r4 : h.2.1 + N - s0 ≤ R.slots := r4
  refine W.newcK hx hb hown (hts _ hl) (hts _ hin) (hts _ hini) rfl hd (by omega) (by omega) hKn.2.1 rfl fun H1 kC hkC e1 z1 o1 => ?_
  have e2 : H.size = E.2.2.1 + h.1 := hR.1
  have kk := k H1 locs ls (hR.push ?_ z1 o1) hL (am_S_push hS z1 o1)
  · rw [List.map_cons, am_cv_ref (by omega)] at kk
    rw [e2]
    rw [show (am_mk h (c0 + 10) N z).1 - n0 = h.1 - n0 + 1 by show h.1 + 1 - n0 = _; omega, show (am_mk h (c0 + 10) N z).2.1 - s0 = h.2.1 - s0 + N by show h.2.1 + N - s0 = _; omega] at kk
    rw [show ((h.1 : Int)).toNat = h.1 by omega] at kk
    exact kk
  · rw [am_ce_o (c := c0) (by rw [am_mk_k]), am_mk_k]
    rw [← e2]
    refine ⟨_, hC.1, (u_born ty hts hC.2.1 hKn hkC e1 hC.2.2.1).to (fun j hj => ?_)⟩
    have hj : j < N := hj
    obtain ⟨d1, d2⟩ := hz0 j hj
    show defaultValue (ty j) = vp_V _ j
    unfold vp_V
    simp only [am_mk_d]
    rw [List.getD_eq_getElem?_getD, am_fs_at hj, d1]
    show am_fv 0 _ _ = am_fv _ _ _
    by_cases q : am_ft c0 j = 2
    · rw [q, d2 q]; rfl
    · have q1 : am_ft c0 j = 0 ∨ am_ft c0 j = 1 := by have := hft j hj; omega
      rcases q1 with q1 | q1 <;> rw [q1] <;> rfl
theorem sn_newa {t : Nat} {at_ : ArrayType} (ht : (t = 1 ∧ at_ = .int) ∨ (t = 2 ∧ at_ = .long) ∨ (t = 3 ∧ at_ = .byte) ∨ (t = 4 ∧ at_ = .boolean)) (hw : Cond.arrayClass (newarray.typeOf at_) ∈ am_tb) (hd : decode cc pc = .ok (.newarray at_, 2)) : am_Sn cc own ret nL nm scr pc (o_newa t (pc + 2)) := by
  intro p l e R s m args below meth c Q E n0 s0 hscr X lv st h pc' lv' st' h' hF ok rm k H locs ls hR hL hS
  unfold o_newa at hF
  split at hF
  · rename_i n r
    split at hF
    · rename_i hn
      cases hF
      obtain ⟨hx, hb, hml, hown, hr, hlk, hnm, hT, hlow⟩ := X
      have hni : am_w n = n := am_ok1 ok
      obtain ⟨r1, r2, r3, r4, -⟩ := rm
      have r3 : h.1 + 1 - n0 ≤ R.cells := r3
      have r4 : h.2.1 + n.toNat - s0 ≤ R.slots := r4
      have e2 : H.size = E.2.2.1 + h.1 := hR.1
      have hcb : n.toNat * componentBytes (newarray.typeOf at_) ≤ 536870912 := by
        have h8 : componentBytes (newarray.typeOf at_) ≤ 8 := by rcases ht with ⟨-, z⟩ | ⟨-, z⟩ | ⟨-, z⟩ | ⟨-, z⟩ <;> subst z <;> decide
        have h9 : n.toNat ≤ 1000000 := by omega
        calc n.toNat * componentBytes (newarray.typeOf at_) ≤ 1000000 * 8 := Nat.mul_le_mul h9 h8
          _ ≤ 536870912 := by decide
      refine va_newaK hx hb (hT.2.1 _ hw args) rfl hd rfl (fun q => ?_) (am_clamp hni) hcb (by omega) (by omega) rfl fun H1 cA e1 z1 o1 hAr hNm => ?_
      · have := (am_ilt hni am_w0).mp (by rw [am_i0]; exact q)
        omega
      have hcA : cA = E.2.1 t := by
        have hq := (hT.2.2.1.2 t _ (am_ty_at (E := E) (by omega) (by omega))).2
        rcases ht with ⟨z1, z2⟩ | ⟨z1, z2⟩ | ⟨z1, z2⟩ | ⟨z1, z2⟩ <;> subst z1 <;> subst z2 <;> exact Option.some.inj (hNm.symm.trans hq)
      subst hcA
      have kk := k H1 locs ls (hR.push ?_ z1 o1) hL (am_S_push hS z1 o1)
      · rw [List.map_cons, am_cv_ref (by omega)] at kk
        rw [e2]
        rw [show (am_mk h t n.toNat (fun _ => 0)).1 - n0 = h.1 - n0 + 1 by show h.1 + 1 - n0 = _; omega, show (am_mk h t n.toNat (fun _ => 0)).2.1 - s0 = h.2.1 - s0 + n.toNat by show h.2.1 + n.toNat - s0 = _; omega] at kk
        rw [show ((h.1 : Int)).toNat = h.1 by omega] at kk
        exact kk
      · rcases ht with ⟨z1, z2⟩ | ⟨z1, z2⟩ | ⟨z1, z2⟩ | ⟨z1, z2⟩ <;> subst z1 <;> subst z2
        · rw [am_ce_i (t := 1) (by rw [am_mk_k]) (Or.inl rfl), am_mk_k, ← e2]
          simp only [am_mk_d]
          exact e1
        · rw [am_ce_l (by rw [am_mk_k]), am_mk_k, ← e2]
          simp only [am_mk_d]
          exact e1
        · rw [am_ce_i (t := 3) (by rw [am_mk_k]) (Or.inr (Or.inl rfl)), am_mk_k, ← e2]
          simp only [am_mk_d]
          exact e1
        · rw [am_ce_i (t := 4) (by rw [am_mk_k]) (Or.inr (Or.inr rfl)), am_mk_k, ← e2]
          simp only [am_mk_d]
          exact e1
    · cases hF
  · cases hF
end AMS5
