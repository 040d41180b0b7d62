/-! one step of the small machine is one of the real one: texts, the script, statics, the first constructor -/
section AMS8
variable {cc : ByteArray} {own nm : String} {ret : Option FieldType} {nL pc : Nat} {scr : Nat × (Nat → Int)} {c0 idx : Nat}
theorem am_low_kept {E : am_E} {s : State} (hT : am_T E s) (hlow : am_Low E s.heap) : ∀ a : Nat, a < E.2.2.2.1.size → ¬ am_A E a → s.heap[a]? = E.2.2.2.1[a]? := fun a ha _ => hlow.2 a (by rw [← hT.1]; exact ha)
theorem am_cv_tx {E : am_E} {x : Int} {j ad : Nat} (hj : E.2.2.2.2.1 j = some ad) (hx : x = -2 - (j : Int)) : am_cv E (.inr (.inr x)) = .ref ad := by
  show (if x ≤ -2 then va_rf (E.2.2.2.2.1 (-2 - x).toNat) else _) = _
  rw [if_pos (by omega), show (-2 - x).toNat = j by omega, hj]
  rfl
theorem sn_tval (hl : Cond.fieldLink own idx "java/lang/String" "value" "[B" ∈ am_tb) (hd : decode cc pc = .ok (.getfield idx, 3)) : am_Sn cc own ret nL nm scr pc (o_tval am_tx.length (pc + 3)) := by
  intro p l e R s m args below meth c Q E n0 s0 hscr X lv st h pc' lv' st' h' hF ok rm k H locs ls hR hL hS
  unfold o_tval at hF
  split at hF
  · rename_i a r
    split at hF
    · rename_i ho
      cases hF
      obtain ⟨hx, hb, hml, hown, hr, hlk, hnm, hT, hlow⟩ := X
      obtain ⟨ad, v, j1, j2, -, -, hv, -⟩ := hT.2.2.2.2.1 (-2 - a).toNat (by omega)
      have kk := k H locs ls hR hL hS
      rw [List.map_cons, am_cv_tx j2 (by omega)] at kk
      rw [List.map_cons, am_cv_tx j1 (by omega)]
      exact vk_getf hx hb (hv.kept (am_low_kept hT hlow)) hS hown (hT.2.1 _ hl args) (fun _ z => z) hd kk
    · cases hF
  · cases hF
theorem sn_tcod (hl : Cond.fieldLink own idx "java/lang/String" "coder" "B" ∈ am_tb) (hd : decode cc pc = .ok (.getfield idx, 3)) : am_Sn cc own ret nL nm scr pc (o_tcod am_tx.length (pc + 3)) := by
  intro p l e R s m args below meth c Q E n0 s0 hscr X lv st h pc' lv' st' h' hF ok rm k H locs ls hR hL hS
  unfold o_tcod at hF
  split at hF
  · rename_i a r
    split at hF
    · rename_i ho
      cases hF
      obtain ⟨hx, hb, hml, hown, hr, hlk, hnm, hT, hlow⟩ := X
      obtain ⟨ad, v, j1, j2, -, hc, -, -⟩ := hT.2.2.2.2.1 (-2 - a).toNat (by omega)
      have kk := k H locs ls hR hL hS
      rw [List.map_cons, am_cv_tx j1 (by omega)]
      exact vk_getf hx hb (hc.kept (am_low_kept hT hlow)) hS hown (hT.2.1 _ hl args) (fun _ z => z) hd kk
    · cases hF
  · cases hF
theorem sn_tlen (hd : decode cc pc = .ok (.arraylength, 1)) : am_Sn cc own ret nL nm scr pc (o_tlen am_tx (pc + 1)) := by
  intro p l e R s m args below meth c Q E n0 s0 hscr X lv st h pc' lv' st' h' hF ok rm k H locs ls hR hL hS
  unfold o_tlen at hF
  split at hF
  · rename_i a r
    split at hF
    · rename_i ho
      cases hF
      obtain ⟨hx, hb, hml, hown, hr, hlk, hnm, hT, hlow⟩ := X
      obtain ⟨ad, v, j1, j2, -, -, -, hb2⟩ := hT.2.2.2.2.1 (-500 - a).toNat (by omega)
      have kk := k H locs ls hR hL hS
      rw [List.map_cons, am_cv_tx j2 (by omega)]
      obtain ⟨cell, g1, g2, g3, g4, g5, g6, g7⟩ := (hb2.kept (am_low_kept hT hlow)).kept hS.2.1
      exact W.alen hx hb g1 g2 (g5.trans Int32.ofInt_eq_ofNat.symm) rfl rfl hd kk
    · cases hF
  · cases hF
theorem sn_tald (hd : decode cc pc = .ok (.baload, 1)) : am_Sn cc own ret nL nm scr pc (o_tald am_tx (pc + 1)) := by
  intro p l e R s m args below meth c Q E n0 s0 hscr X lv st h pc' lv' st' h' hF ok rm k H locs ls hR hL hS
  unfold o_tald at hF
  split at hF
  · rename_i i a r
    split at hF
    · rename_i ho
      cases hF
      obtain ⟨hx, hb, hml, hown, hr, hlk, hnm, hT, hlow⟩ := X
      have hi : am_w i = i := ok.1 (.inl i) (by simp)
      obtain ⟨ad, v, j1, j2, -, -, -, hb2⟩ := hT.2.2.2.2.1 (-500 - a).toNat (by omega)
      have kk := k H locs ls hR hL hS
      rw [List.map_cons, List.map_cons, am_cv_tx j2 (by omega)]
      exact va_tb hx hb (hb2.kept (am_low_kept hT hlow)) hS (am_vpin hi ho.2.2.1 ho.2.2.2) (by rw [am_clamp hi]; rfl) hd kk
    · cases hF
  · cases hF
theorem sn_slen (hd : decode cc pc = .ok (.arraylength, 1)) : am_Sn cc own ret nL nm scr pc (o_slen scr.1 (pc + 1)) := by
  intro p l e R s m args below meth c Q E n0 s0 hscr X lv st h pc' lv' st' h' hF ok rm k H locs ls hR hL hS
  unfold o_slen at hF
  split at hF
  · rename_i a r
    split at hF
    · rename_i ho
      cases hF
      obtain ⟨hx, hb, hml, hown, hr, hlk, hnm, hT, hlow⟩ := X
      obtain ⟨b, j1, j2, hX⟩ := hT.2.2.2.2.2.2
      have kk := k H locs ls hR hL hS
      rw [List.map_cons, am_cv_tx j1 (by omega)]
      rw [List.map_cons, ← hscr] at kk
      have h1 := hlow.1
      refine va_slen hx hb (hX.kept (hlow.2 b j2)) (by omega) (fun z => by have z : E.2.2.1 ≤ b := z; omega) hS hd ?_
      rw [← Int32.ofInt_eq_ofNat]
      exact kk
    · cases hF
  · cases hF
theorem sn_sld (hd : decode cc pc = .ok (.iaload, 1)) : am_Sn cc own ret nL nm scr pc (o_sld scr.1 scr.2 (pc + 1)) := by
  intro p l e R s m args below meth c Q E n0 s0 hscr X lv st h pc' lv' st' h' hF ok rm k H locs ls hR hL hS
  unfold o_sld at hF
  split at hF
  · rename_i i a r
    split at hF
    · rename_i ho
      cases hF
      obtain ⟨hx, hb, hml, hown, hr, hlk, hnm, hT, hlow⟩ := X
      have hi : am_w i = i := ok.1 (.inl i) (by simp)
      obtain ⟨b, j1, j2, hX⟩ := hT.2.2.2.2.2.2
      have kk := k H locs ls hR hL hS
      rw [List.map_cons, List.map_cons, am_cv_tx j1 (by omega)]
      rw [List.map_cons] at kk
      have h1 := hlow.1
      refine va_sld hx hb (hX.kept (hlow.2 b j2)) (by omega) (fun z => by have z : E.2.2.1 ≤ b := z; omega) hS (am_vpin hi ho.2.1 (by rw [hscr]; exact ho.2.2)) hd ?_
      rw [am_clamp hi, hscr]
      exact kk
    · cases hF
  · cases hF
theorem sn_getsC (hl : Cond.fieldLink own idx "java/lang/String" "COMPACT_STRINGS" "Z" ∈ am_tb) (hd : decode cc pc = .ok (.getstatic idx, 3)) : am_Sn cc own ret nL nm scr pc (o_push (.inl 1) (pc + 3)) := by
  intro p l e R s m args below meth c Q E n0 s0 hscr X lv st h pc' lv' st' h' hF ok rm k H locs ls hR hL hS
  cases hF
  obtain ⟨hx, hb, hml, hown, hr, hlk, hnm, hT, hlow⟩ := X
  exact va_gets hx hb (hT.2.2.2.2.2.1.1.kept (am_low_kept hT hlow)) hS hown (hT.2.1 _ hl args) (fun _ z => z) hd (k H locs ls hR hL hS)
theorem sn_getsF (hl : Cond.fieldLink own idx "jdk/internal/util/Preconditions" "SIOOBE_FORMATTER" "Ljava/util/function/BiFunction;" ∈ am_tb) (hd : decode cc pc = .ok (.getstatic idx, 3)) : am_Sn cc own ret nL nm scr pc (o_push (.inr (.inr (-900))) (pc + 3)) := by
  intro p l e R s m args below meth c Q E n0 s0 hscr X lv st h pc' lv' st' h' hF ok rm k H locs ls hR hL hS
  cases hF
  obtain ⟨hx, hb, hml, hown, hr, hlk, hnm, hT, hlow⟩ := X
  exact va_gets hx hb (hT.2.2.2.2.2.1.2.kept (am_low_kept hT hlow)) hS hown (hT.2.1 _ hl args) (fun _ z => z) hd (k H locs ls hR hL hS)
theorem sn_drop (hl : Cond.methodLink own idx Lib.objectInit ∈ am_tb) (hin : Cond.instanceMethod Lib.objectInit ∈ am_tb) (hco : Cond.code Lib.objectInit ⟨#[0xb1]⟩ 1 none ∈ am_tb) (hd : decode cc pc = .ok (.invokespecial idx, 3)) : am_Sn cc own ret nL nm scr pc (o_drop c0 (pc + 3)) := by
  intro p l e R s m args below meth c Q E n0 s0 hscr X lv st h pc' lv' st' h' hF ok rm k H locs ls hR hL hS
  unfold o_drop at hF
  split at hF
  · rename_i a rr
    split at hF
    · rename_i ho
      cases hF
      obtain ⟨hx, hb, hml, hown, hr, hlk, hnm, hT, hlow⟩ := X
      obtain ⟨r1, r2, r3, r4, r5, r6, r7⟩ := rm
      rw [List.map_cons, am_cv_ref ho.1.1]
      refine W.objInit hx hb hown (hT.2.1 _ hl args) (hT.2.1 _ hin args) (hT.2.1 _ hco args) rfl (by show ls.size = _; rw [hL.1, hml]) rfl hd r5 ?_ (k H locs ls hR hL hS)
      show 2 * 0 + (List.map (fun v => v.category) (List.map (am_cv E) st')).sum + 12 ≤ _
      rw [am_cats]
      have := ho.2
      omega
    · cases hF
  · cases hF
end AMS8
