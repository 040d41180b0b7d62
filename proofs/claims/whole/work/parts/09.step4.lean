/-! one step of the small machine is one of the real one: fields written, rows, makings -/
section AMS4
variable {cc : ByteArray} {own nm : String} {ret : Option FieldType} {nL pc : Nat} {scr : Nat × (Nat → Int)} {c0 k0 N idx : Nat} {C : String} {T : u_T} {ty : Nat → FieldType}
def am_pl (own : String) (idx : Nat) (T : u_T) (k0 : Nat) (nm : String) : Prop := (Cond.fieldLink own idx (T k0).1 (T k0).2.1 (T k0).2.2.1 ∈ am_tb ∧ ((T k0).2.2.2 = false ∨ ((T k0).2.2.2 = true ∧ nm = "<init>" ∧ (T k0).1 = own))) ∨ ((T k0).2.2.2 = false ∧ ∃ host, Cond.fieldLinkNest own idx (T k0).1 (T k0).2.1 (T k0).2.2.1 host ∈ am_tb)
theorem sn_putI (hC : am_Cl c0 C T N ty) (hk : k0 < N) (hf : am_ft c0 k0 = 0) (hty : ty k0 = .int) (hl : am_pl own idx T k0 nm) (hd : decode cc pc = .ok (.putfield idx, 3)) : am_Sn cc own ret nL nm scr pc (o_putI c0 k0 (pc + 3)) := by
  intro p l e R s m args below meth c Q E n0 s0 hscr X lv st h pc' lv' st' h' hF ok rm k H locs ls hR hL hS
  unfold o_putI at hF
  split at hF
  · split at hF
    · rename_i ho
      cases hF
      exact am_put1 hC hk hl hd X ok.2.2.2 hR hS ho (by rw [hf]; rfl) (by rw [hty]; rfl) (by rw [hty]; rfl) (fun H1 locs1 g1 g2 => k H1 locs1 ls g1 hL g2)
    · cases hF
  · cases hF
theorem am_z01 {x : Int} (h : x = 0 ∨ x = 1) : narrow .boolean (.int (Int32.ofInt x)) = .int (Int32.ofInt x) ∧ fits .boolean (.int (Int32.ofInt x)) = true := by
  rcases h with z | z
  · subst z; exact ⟨by decide +kernel, by decide +kernel⟩
  · subst z; exact ⟨by decide +kernel, by decide +kernel⟩
theorem sn_putZ (hC : am_Cl c0 C T N ty) (hk : k0 < N) (hf : am_ft c0 k0 = 0) (hty : ty k0 = .boolean) (hl : am_pl own idx T k0 nm) (hd : decode cc pc = .ok (.putfield idx, 3)) : am_Sn cc own ret nL nm scr pc (o_putZ c0 k0 (pc + 3)) := by
  intro p l e R s m args below meth c Q E n0 s0 hscr X lv st h pc' lv' st' h' hF ok rm k H locs ls hR hL hS
  unfold o_putZ at hF
  split at hF
  · split at hF
    · rename_i ho
      cases hF
      refine am_put1 hC hk hl hd X ok.2.2.2 hR hS ho.1 (by rw [hf]; rfl) ?_ ?_ (fun H1 locs1 g1 g2 => k H1 locs1 ls g1 hL g2)
      · rw [hty]; exact (am_z01 ho.2).1
      · rw [hty]; exact (am_z01 ho.2).2
    · cases hF
  · cases hF
theorem sn_putL (hC : am_Cl c0 C T N ty) (hk : k0 < N) (hf : am_ft c0 k0 = 1) (hty : ty k0 = .long) (hl : am_pl own idx T k0 nm) (hd : decode cc pc = .ok (.putfield idx, 3)) : am_Sn cc own ret nL nm scr pc (o_putL c0 k0 (pc + 3)) := by
  intro p l e R s m args below meth c Q E n0 s0 hscr X lv st h pc' lv' st' h' hF ok rm k H locs ls hR hL hS
  unfold o_putL at hF
  split at hF
  · split at hF
    · rename_i ho
      cases hF
      exact am_put1 hC hk hl hd X ok.2.2.2 hR hS ho (by rw [hf]; rfl) (by rw [hty]; rfl) (by rw [hty]; rfl) (fun H1 locs1 g1 g2 => k H1 locs1 ls g1 hL g2)
    · cases hF
  · cases hF
theorem sn_putR (hC : am_Cl c0 C T N ty) (hk : k0 < N) (hf : am_ft c0 k0 = 2) (hty : ∀ r : Option Nat, narrow (ty k0) (va_rf r) = va_rf r ∧ fits (ty k0) (va_rf r) = true) (hl : am_pl own idx T k0 nm) (hd : decode cc pc = .ok (.putfield idx, 3)) : am_Sn cc own ret nL nm scr pc (o_putR c0 k0 (pc + 3)) := by
  intro p l e R s m args below meth c Q E n0 s0 hscr X lv st h pc' lv' st' h' hF ok rm k H locs ls hR hL hS
  unfold o_putR at hF
  split at hF
  · split at hF
    · rename_i ho
      cases hF
      refine am_put1 hC hk hl hd X ok.2.2.2 hR hS ho.1 (am_fv_r hf ho.2) ?_ ?_ (fun H1 locs1 g1 g2 => k H1 locs1 ls g1 hL g2)
      · rw [am_cv_fr ho.2]; exact (hty _).1
      · rw [am_cv_fr ho.2]; exact (hty _).2
    · cases hF
  · cases hF
-- rows
theorem am_a_at {h : am_H} {a i : Int} {t : Nat} (ht : t ≠ 0) (hk : am_kd h) (ho : am_inA h a t i) : a.toNat < h.1 := (hk a.toNat (by rw [ho.2.1]; exact ht)).1
theorem am_ty_at {E : am_E} {t : Nat} (h1 : 1 ≤ t) (h2 : t ≤ 7) : (am_tys E)[t]? = some (E.2.1 t, [FieldType.int, .int, .long, .byte, .boolean, .object "SnorePlay$Play", .object "SnorePlay$Tray", .array .long].getD t .int) := by
  match t, h1, h2 with
  | 1, _, _ => rfl
  | 2, _, _ => rfl
  | 3, _, _ => rfl
  | 4, _, _ => rfl
  | 5, _, _ => rfl
  | 6, _, _ => rfl
  | 7, _, _ => rfl
theorem sn_iald (hd : decode cc pc = .ok (.iaload, 1)) : am_Sn cc own ret nL nm scr pc (o_iald (pc + 1)) := by
  intro p l e R s m args below meth c Q E n0 s0 hscr X lv st h pc' lv' st' h' hF ok rm k H locs ls hR hL hS
  unfold o_iald at hF
  split at hF
  · rename_i i a r
    split at hF
    · rename_i ho
      cases hF
      have hi : am_w i = i := ok.1 (.inl i) (by simp)
      have hw := (am_ws_get (E := E) (am_a_at (by decide) ok.2.2.2 ho)).trans (by rw [am_ce_i ho.2.1 (Or.inl rfl)])
      have kk := k H locs ls hR hL hS
      rw [List.map_cons, List.map_cons, am_cv_ref ho.1]
      refine va_iald X.1 X.2.1 X.2.2.2.2.2.2.2.1.2.2.1 hR.2.2 a.toNat 1 hw (am_ty_at (by decide) (by decide)) (am_vpin hi ho.2.2.1 ho.2.2.2) hd ?_
      rw [am_clamp hi]
      exact kk
    · cases hF
  · cases hF
theorem sn_lald (hd : decode cc pc = .ok (.laload, 1)) : am_Sn cc own ret nL nm scr pc (o_lald (pc + 1)) := by
  intro p l e R s m args below meth c Q E n0 s0 hscr X lv st h pc' lv' st' h' hF ok rm k H locs ls hR hL hS
  unfold o_lald at hF
  split at hF
  · rename_i i a r
    split at hF
    · rename_i ho
      cases hF
      have hi : am_w i = i := ok.1 (.inl i) (by simp)
      have hw := (am_ws_get (E := E) (am_a_at (by decide) ok.2.2.2 ho)).trans (by rw [am_ce_l ho.2.1])
      have kk := k H locs ls hR hL hS
      rw [List.map_cons, List.map_cons, am_cv_ref ho.1]
      refine va_lald X.1 X.2.1 X.2.2.2.2.2.2.2.1.2.2.1 hR.2.2 a.toNat 2 hw (am_ty_at (by decide) (by decide)) (am_vpin hi ho.2.2.1 ho.2.2.2) hd ?_
      rw [am_clamp hi]
      exact kk
    · cases hF
  · cases hF
theorem sn_bald (hd : decode cc pc = .ok (.baload, 1)) : am_Sn cc own ret nL nm scr pc (o_bald (pc + 1)) := by
  intro p l e R s m args below meth c Q E n0 s0 hscr X lv st h pc' lv' st' h' hF ok rm k H locs ls hR hL hS
  unfold o_bald at hF
  split at hF
  · rename_i i a r
    split at hF
    · rename_i ho
      cases hF
      have hi : am_w i = i := ok.1 (.inl i) (by simp)
      have hw := (am_ws_get (E := E) (am_a_at (by decide) ok.2.2.2 ho)).trans (by rw [am_ce_i ho.2.1 (Or.inr (Or.inl rfl))])
      have kk := k H locs ls hR hL hS
      rw [List.map_cons, List.map_cons, am_cv_ref ho.1]
      refine va_bald X.1 X.2.1 X.2.2.2.2.2.2.2.1.2.2.1 hR.2.2 a.toNat 3 hw (am_ty_at (by decide) (by decide)) (am_vpin hi ho.2.2.1 ho.2.2.2) hd ?_
      rw [am_clamp hi]
      exact kk
    · cases hF
  · cases hF
theorem sn_zald (hd : decode cc pc = .ok (.baload, 1)) : am_Sn cc own ret nL nm scr pc (o_zald (pc + 1)) := by
  intro p l e R s m args below meth c Q E n0 s0 hscr X lv st h pc' lv' st' h' hF ok rm k H locs ls hR hL hS
  unfold o_zald at hF
  split at hF
  · rename_i i a r
    split at hF
    · rename_i ho
      cases hF
      have hi : am_w i = i := ok.1 (.inl i) (by simp)
      have hw := (am_ws_get (E := E) (am_a_at (by decide) ok.2.2.2 ho)).trans (by rw [am_ce_i ho.2.1 (Or.inr (Or.inr rfl))])
      have kk := k H locs ls hR hL hS
      rw [List.map_cons, List.map_cons, am_cv_ref ho.1]
      refine va_zald X.1 X.2.1 X.2.2.2.2.2.2.2.1.2.2.1 hR.2.2 a.toNat 4 hw (am_ty_at (by decide) (by decide)) (am_vpin hi ho.2.2.1 ho.2.2.2) hd ?_
      rw [am_clamp hi]
      exact kk
    · cases hF
  · cases hF
theorem am_hr_a {h : am_H} {a t i : Nat} (hr : am_hr h) (hk : (h.2.2.1 a).1 = t) (ht : 5 ≤ t ∧ t ≤ 7) (hi : i < (h.2.2.1 a).2) : -1 ≤ h.2.2.2 a i := by
  have := hr a i hi
  unfold am_xr at this
  rw [hk, if_neg (by omega), if_neg (by omega), if_pos (by omega)] at this
  exact this
theorem am_rf_cv {E : am_E} {x : Int} (hx : -1 ≤ x) : va_rf (am_ro E.2.2.1 x) = am_cv E (.inr (.inr x)) := (am_cv_fr hx).symm
theorem sn_aald {t : Nat} (ht : t = 5 ∨ t = 6 ∨ t = 7) (hd : decode cc pc = .ok (.aaload, 1)) : am_Sn cc own ret nL nm scr pc (o_aald t (pc + 1)) := by
  intro p l e R s m args below meth c Q E n0 s0 hscr X lv st h pc' lv' st' h' hF ok rm k H locs ls hR hL hS
  unfold o_aald at hF
  split at hF
  · rename_i i a r
    split at hF
    · rename_i ho
      cases hF
      have hi : am_w i = i := ok.1 (.inl i) (by simp)
      have hw := (am_ws_get (E := E) (am_a_at (by omega) ok.2.2.2 ho)).trans (by rw [am_ce_r ho.2.1 (by omega)])
      have hK := X.2.2.2.2.2.2.2.1.2.2.1
      have kk := k H locs ls hR hL hS
      have hlt : i.toNat < (h.2.2.1 a.toNat).2 := by have := ho.2.2; omega
      have hv := am_hr_a ok.2.2.1 ho.2.1 (by omega) hlt
      rw [List.map_cons, List.map_cons, am_cv_ref ho.1]
      rw [List.map_cons, ← am_rf_cv hv] at kk
      have hin := am_vpin hi ho.2.2.1 ho.2.2.2
      refine W.aald (v := va_rf (am_ro E.2.2.1 (am_rd h a i))) (ty := [FieldType.int, .int, .long, .byte, .boolean, .object "SnorePlay$Play", .object "SnorePlay$Tray", .array .long].getD t .int) X.1 X.2.1 (hR.2.2 a.toNat _ hw) ((hK.2 t _ (am_ty_at (by omega) (by omega))).1 _ (fun j => va_rf (am_ro E.2.2.1 (h.2.2.2 a.toNat j)))) ?_ (fun q => by cases q) (by show ¬ (Int32.ofInt i < 0 ∨ (arrV _ _ _).slots.size ≤ _); rw [arrV_size]; exact hin) (by show (arrV _ _ _).slots[_]? = _; rw [am_clamp hi, arrV_read _ _ hlt]) rfl rfl hd kk
      rcases ht with z | z | z <;> subst z <;> rfl
    · cases hF
  · cases hF
end AMS4
