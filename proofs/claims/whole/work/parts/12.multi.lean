/-! rows of rows -/
section AMS7
variable {cc : ByteArray} {own nm : String} {ret : Option FieldType} {nL pc : Nat} {scr : Nat × (Nat → Int)} {idx : Nat}
theorem am_outer (c : ClassId) (N h0 : Nat) : ∀ i : Nat, Jvm.Free.Multi.outerC c N h0 i = arrV c N (fun j => va_rf (if j < i then some (h0 + 1 + j) else none)) := by
  intro i
  induction i with
  | zero =>
    show ({ cls := c, slots := Array.replicate N .null, vm := .none } : Cell) = _
    rw [arrV_new]
    congr 1
  | succ i ih =>
    show (Jvm.Free.Multi.outerC c N h0 i).setSlot i (.ref (h0 + 1 + i)) = _
    rw [ih, arrV_store]
    congr 1
    funext j
    unfold updV
    by_cases e : j = i
    · subst e; simp [va_rf]
    · by_cases q : j < i
      · simp [e, q, Nat.lt_succ_of_lt q]
      · simp [e, q, show ¬ j < i + 1 by omega]
theorem am_arrV_eq {c : ClassId} {N : Nat} {f g : Nat → Value} (h : ∀ j, j < N → f j = g j) : arrV c N f = arrV c N g := by
  unfold arrV
  congr 1
  apply Array.ext
  · simp
  · intro i h1 h2
    simp only [Array.getElem_ofFn]
    exact h i (by simpa using h1)
theorem sn_multi (hcl : Cond.classLink own idx ("[" ++ (FieldType.array FieldType.long).toString) ∈ am_tb) (hov : Cond.arrayOver (.array .long) ∈ am_tb) (harr : Cond.arrayClass .long ∈ am_tb) (hd : decode cc pc = .ok (.multianewarray idx 2, 4)) : am_Sn cc own ret nL nm scr pc (o_multi (pc + 4)) := by
  intro p l e R s m args below meth c Q E n0 s0 hscr X lv st h pc' lv' st' h' hF ok rm k H locs ls hR hL hS
  unfold o_multi at hF
  split at hF
  · rename_i n2 n1 r
    split at hF
    · rename_i hn
      cases hF
      obtain ⟨hx, hb, hml, hown, hr, hlk, hnm, hT, hlow⟩ := X
      have w1 : am_w n1 = n1 := (am_ok2 ok).1
      have w2 : am_w n2 = n2 := (am_ok2 ok).2
      obtain ⟨r1, r2, r3, r4, r5, r6, r7⟩ := rm
      generalize hh1 : am_mk h 7 n1.toNat (fun j => ((h.1 + 1 + j : Nat) : Int)) = h1 at r3 r4 k
      have e1 : h1.1 = h.1 + 1 := by rw [← hh1]; rfl
      have e2 : h1.2.1 = h.2.1 + n1.toNat := by rw [← hh1]; rfl
      obtain ⟨q1, q2⟩ := am_rows_1 n2.toNat n1.toNat h1
      rw [q1, e1] at r3
      rw [q2, e2] at r4
      have hsz : H.size = E.2.2.1 + h.1 := hR.1
      have ng : ∀ {z : Int}, am_w z = z → 0 ≤ z → ¬ Int32.ofInt z < 0 := fun {z} wz hz q => by
        have := (am_ilt wz am_w0).mp (by rw [am_i0]; exact q)
        omega
      intro T hTH Xs
      have hmul : n1.toNat * n2.toNat ≤ 1000 * 1000 := Nat.mul_le_mul (by omega) (by omega)
      obtain ⟨vm₁, cA, comp, -, fA, fC, hO, -, X', step⟩ := Jvm.Stand.multianewarray2F Xs hx hown (hT.2.1 _ hcl args) (hT.2.1 _ hov args) (hT.2.1 _ harr args) (g := F0 m pc ls (.int (Int32.ofInt n2) :: .int (Int32.ofInt n1) :: r.map (am_cv E))) rfl (by rw [hb]; exact hd) rfl (ng w1 hn.1) (ng w2 hn.2.2.1) (by rw [am_clamp w1]; omega) (by rw [am_clamp w2]; show n2.toNat * 8 ≤ _; omega) (by rw [am_clamp w2]; omega) (by decide) (by decide) (by rw [am_clamp w1]; omega) (by rw [am_clamp w1, am_clamp w2]; omega)
      rw [am_clamp w1, am_clamp w2] at X' step
      have hcA : cA = E.2.1 7 := Option.some.inj (fA.symm.trans (hT.2.2.1.2 7 _ (am_ty_at (E := E) (by omega) (by omega))).2)
      have hcB : comp = E.2.1 2 := Option.some.inj (fC.symm.trans (hT.2.2.1.2 2 _ (am_ty_at (E := E) (by omega) (by omega))).2)
      subst hcA; subst hcB
      generalize hFl : Jvm.Free.Multi.fill (T.setVm vm₁) (E.2.1 7) (E.2.1 2) n1.toNat n2.toNat (defaultValue FieldType.long) n1.toNat = Fl at X' step
      have hTh : (T.setVm vm₁).heap = H := hTH
      obtain ⟨f1, f2, -, -⟩ := Jvm.Free.Multi.fill_facts (T.setVm vm₁) (E.2.1 7) (E.2.1 2) n1.toNat n2.toNat (defaultValue FieldType.long) n1.toNat
      rw [hFl, hTh] at f1 f2
      have hold : ∀ x : Nat, x < H.size → Fl.heap[x]? = H[x]? := fun x hx9 => by
        have := Jvm.Free.Multi.fill_old (T.setVm vm₁) (E.2.1 7) (E.2.1 2) n1.toNat n2.toNat (defaultValue FieldType.long) (a := x) (by rw [hTh]; exact hx9) n1.toNat
        rw [hFl, hTh] at this
        exact this
      have hrow : ∀ j : Nat, j < n1.toNat → Fl.heap[H.size + 1 + j]? = some (Jvm.Free.Multi.innerC (E.2.1 2) n2.toNat (defaultValue FieldType.long)) := fun j hj => by
        have := Jvm.Free.Multi.fill_inner (T.setVm vm₁) (E.2.1 7) (E.2.1 2) n1.toNat n2.toNat (defaultValue FieldType.long) n1.toNat j hj
        rw [hFl, hTh] at this
        exact this
      have hR1 : am_HR E (am_rows n2.toNat n1.toNat h1) Fl.heap := by
        refine ⟨by rw [f1, q1, e1]; omega, fun q hq => by rw [hold q (by omega)]; exact hR.2.1 q hq, fun a y hy => ?_⟩
        obtain ⟨ha, rfl⟩ := am_ws_some hy
        rw [q1, e1] at ha
        by_cases c1 : a < h.1
        · have o1 := am_rows_old n2.toNat n1.toNat h1 a (by omega)
          have o2 : am_ce E (am_rows n2.toNat n1.toNat h1) a = am_ce E h a := by
            rw [am_ce_same (h := h1) o1.1 o1.2]
            refine am_ce_same ?_ ?_
            · rw [← hh1]; unfold am_mk; simp [Nat.ne_of_lt c1]
            · rw [← hh1]; unfold am_mk; simp [Nat.ne_of_lt c1]
          rw [o2]
          exact (hR.2.2 a _ (am_ws_get c1)).kept (hold _ (by simp only; omega))
        · by_cases c2 : a = h.1
          · subst c2
            have o1 := am_rows_old n2.toNat n1.toNat h1 h.1 (by omega)
            rw [am_ce_same (h := h1) o1.1 o1.2, ← hh1, am_ce_r (t := 7) (by rw [am_mk_k]) (by omega), am_mk_k]
            show Fl.heap[_]? = some (vp_cell _ _)
            rw [← hsz, f2, vp_cell_q]
            simp only [am_mk_d]
            rw [am_outer]
            refine congrArg some (am_arrV_eq (fun j hj => ?_))
            show va_rf (if j < n1.toNat then some (H.size + 1 + j) else none) = va_rf (am_ro E.2.2.1 ((h.1 + 1 + j : Nat) : Int))
            rw [if_pos hj]
            unfold am_ro
            rw [if_pos (by omega), hsz]
            congr 2
            omega
          · obtain ⟨j, hj⟩ : ∃ j, a = h1.1 + j := ⟨a - h1.1, by omega⟩
            subst hj
            have o1 := am_rows_new n2.toNat n1.toNat h1 j (by omega)
            rw [am_ce_l (by rw [o1.1])]
            show Fl.heap[_]? = some (vp_cell _ _)
            rw [show E.2.2.1 + (h1.1 + j) = H.size + 1 + j by omega, hrow j (by omega), o1.1, o1.2, vp_cell_l]
            show some ({ cls := E.2.1 2, slots := Array.replicate n2.toNat (defaultValue FieldType.long), vm := .none } : Cell) = _
            rw [arrV_new]
            rfl
      have kk := k Fl.heap locs ls hR1 hL ⟨by have := hS.1; omega, fun x g1 g2 => (hold x (Nat.lt_of_lt_of_le g1 hS.1)).trans (hS.2.1 x g1 g2), hS.2.2⟩
      rw [q1, q2, e1, e2] at kk
      rw [show h.1 + 1 + n1.toNat - n0 = h.1 - n0 + 1 + n1.toNat by omega, show h.2.1 + n1.toNat + n1.toNat * n2.toNat - s0 = h.2.1 - s0 + n1.toNat + n1.toNat * n2.toNat by omega] at kk
      obtain ⟨t, a1, b1⟩ := kk Fl rfl X'
      refine ⟨t, step t ?_, b1⟩
      rw [hTH, hsz]
      rw [List.map_cons, am_cv_ref (by omega), show ((h.1 : Int)).toNat = h.1 by omega] at a1
      exact a1
    · cases hF
  · cases hF
end AMS7
