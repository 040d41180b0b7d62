/-! one step of the small machine is one of the real one: numbers, the stack, branches -/
section AMS2
variable {cc : ByteArray} {own nm : String} {ret : Option FieldType} {nL pc : Nat} {scr : Nat × (Nat → Int)}
theorem am_ok2 {lv : am_Lv} {a b : am_V} {r : am_St} {h : am_H} (ok : am_ok lv (b :: a :: r) h) : am_vr a ∧ am_vr b := ⟨ok.1 a (by simp), ok.1 b (by simp)⟩
theorem am_ok1 {lv : am_Lv} {a : am_V} {r : am_St} {h : am_H} (ok : am_ok lv (a :: r) h) : am_vr a := ok.1 a (by simp)
theorem sn_iadd (hd : decode cc pc = .ok (.iadd, 1)) : am_Sn cc own ret nL nm scr pc (o_i2 (fun a b => am_w (a + b)) (pc + 1)) := by
  intro p l e R s m args below meth c Q E n0 s0 hscr X lv st h pc' lv' st' h' hF ok rm k H locs ls hR hL hS
  unfold o_i2 at hF
  split at hF
  · rename_i b a r
    cases hF
    have kk := k H locs ls hR hL hS
    rw [List.map_cons] at kk
    have e : am_cv E (.inl (am_w (a + b))) = .int (Int32.ofInt a + Int32.ofInt b) := congrArg Value.int ((am_iadd a b).symm)
    rw [e] at kk
    exact lv_iadd X.1 X.2.1 hd kk
  · cases hF
theorem sn_isub (hd : decode cc pc = .ok (.isub, 1)) : am_Sn cc own ret nL nm scr pc (o_i2 (fun a b => am_w (a - b)) (pc + 1)) := by
  intro p l e R s m args below meth c Q E n0 s0 hscr X lv st h pc' lv' st' h' hF ok rm k H locs ls hR hL hS
  unfold o_i2 at hF
  split at hF
  · rename_i b a r
    cases hF
    have kk := k H locs ls hR hL hS
    rw [List.map_cons] at kk
    have e : am_cv E (.inl (am_w (a - b))) = .int (Int32.ofInt a - Int32.ofInt b) := congrArg Value.int ((am_isub a b).symm)
    rw [e] at kk
    exact lv_isub X.1 X.2.1 hd kk
  · cases hF
theorem sn_imul (hd : decode cc pc = .ok (.imul, 1)) : am_Sn cc own ret nL nm scr pc (o_i2 (fun a b => am_w (a * b)) (pc + 1)) := by
  intro p l e R s m args below meth c Q E n0 s0 hscr X lv st h pc' lv' st' h' hF ok rm k H locs ls hR hL hS
  unfold o_i2 at hF
  split at hF
  · rename_i b a r
    cases hF
    have kk := k H locs ls hR hL hS
    rw [List.map_cons] at kk
    have e : am_cv E (.inl (am_w (a * b))) = .int (Int32.ofInt a * Int32.ofInt b) := congrArg Value.int ((am_imul a b).symm)
    rw [e] at kk
    exact lv_imul X.1 X.2.1 hd kk
  · cases hF
theorem sn_iand (hd : decode cc pc = .ok (.iand, 1)) : am_Sn cc own ret nL nm scr pc (o_i2 (fun a b => am_and a b) (pc + 1)) := by
  intro p l e R s m args below meth c Q E n0 s0 hscr X lv st h pc' lv' st' h' hF ok rm k H locs ls hR hL hS
  unfold o_i2 at hF
  split at hF
  · rename_i b a r
    cases hF
    have kk := k H locs ls hR hL hS
    rw [List.map_cons] at kk
    have e : am_cv E (.inl (am_and a b)) = .int (Int32.ofInt a &&& Int32.ofInt b) := congrArg Value.int (am_io _)
    rw [e] at kk
    exact lv_iand X.1 X.2.1 hd kk
  · cases hF
theorem sn_ior (hd : decode cc pc = .ok (.ior, 1)) : am_Sn cc own ret nL nm scr pc (o_i2 (fun a b => am_or a b) (pc + 1)) := by
  intro p l e R s m args below meth c Q E n0 s0 hscr X lv st h pc' lv' st' h' hF ok rm k H locs ls hR hL hS
  unfold o_i2 at hF
  split at hF
  · rename_i b a r
    cases hF
    have kk := k H locs ls hR hL hS
    rw [List.map_cons] at kk
    have e : am_cv E (.inl (am_or a b)) = .int (Int32.ofInt a ||| Int32.ofInt b) := congrArg Value.int (am_io _)
    rw [e] at kk
    exact lv_ior X.1 X.2.1 hd kk
  · cases hF
theorem sn_ixor (hd : decode cc pc = .ok (.ixor, 1)) : am_Sn cc own ret nL nm scr pc (o_i2 (fun a b => am_xor a b) (pc + 1)) := by
  intro p l e R s m args below meth c Q E n0 s0 hscr X lv st h pc' lv' st' h' hF ok rm k H locs ls hR hL hS
  unfold o_i2 at hF
  split at hF
  · rename_i b a r
    cases hF
    have kk := k H locs ls hR hL hS
    rw [List.map_cons] at kk
    have e : am_cv E (.inl (am_xor a b)) = .int (Int32.ofInt a ^^^ Int32.ofInt b) := congrArg Value.int (am_io _)
    rw [e] at kk
    exact lv_ixor X.1 X.2.1 hd kk
  · cases hF
theorem sn_ishl (hd : decode cc pc = .ok (.ishl, 1)) : am_Sn cc own ret nL nm scr pc (o_i2 (fun a b => am_shl a b) (pc + 1)) := by
  intro p l e R s m args below meth c Q E n0 s0 hscr X lv st h pc' lv' st' h' hF ok rm k H locs ls hR hL hS
  unfold o_i2 at hF
  split at hF
  · rename_i b a r
    cases hF
    have kk := k H locs ls hR hL hS
    rw [List.map_cons] at kk
    have e : am_cv E (.inl (am_shl a b)) = .int (Int32.ofInt a <<< (Int32.ofInt b &&& 31)) := congrArg Value.int (am_io _)
    rw [e] at kk
    exact lv_ishl X.1 X.2.1 hd kk
  · cases hF
theorem sn_ishr (hd : decode cc pc = .ok (.ishr, 1)) : am_Sn cc own ret nL nm scr pc (o_i2 (fun a b => am_shr a b) (pc + 1)) := by
  intro p l e R s m args below meth c Q E n0 s0 hscr X lv st h pc' lv' st' h' hF ok rm k H locs ls hR hL hS
  unfold o_i2 at hF
  split at hF
  · rename_i b a r
    cases hF
    have kk := k H locs ls hR hL hS
    rw [List.map_cons] at kk
    have e : am_cv E (.inl (am_shr a b)) = .int (Int32.ofInt a >>> (Int32.ofInt b &&& 31)) := congrArg Value.int (am_io _)
    rw [e] at kk
    exact lv_ishr X.1 X.2.1 hd kk
  · cases hF
theorem sn_idiv (hd : decode cc pc = .ok (.idiv, 1)) : am_Sn cc own ret nL nm scr pc (o_i2z (fun a b => am_w (a.tdiv b)) (pc + 1)) := by
  intro p l e R s m args below meth c Q E n0 s0 hscr X lv st h pc' lv' st' h' hF ok rm k H locs ls hR hL hS
  unfold o_i2z at hF
  split at hF
  · rename_i b a r
    split at hF
    · cases hF
    rename_i hz
    cases hF
    have kk := k H locs ls hR hL hS
    rw [List.map_cons] at kk
    have e : am_cv E (.inl (am_w (a.tdiv b))) = .int (Int32.ofInt a / Int32.ofInt b) := congrArg Value.int ((am_idiv (am_ok2 ok).1 (am_ok2 ok).2).symm)
    rw [e] at kk
    exact lv_idiv X.1 X.2.1 hd (fun q => hz ((am_ieq (am_ok2 ok).2 am_w0).mp (q.trans am_i0.symm))) kk
  · cases hF
theorem sn_irem (hd : decode cc pc = .ok (.irem, 1)) : am_Sn cc own ret nL nm scr pc (o_i2z (fun a b => a.tmod b) (pc + 1)) := by
  intro p l e R s m args below meth c Q E n0 s0 hscr X lv st h pc' lv' st' h' hF ok rm k H locs ls hR hL hS
  unfold o_i2z at hF
  split at hF
  · rename_i b a r
    split at hF
    · cases hF
    rename_i hz
    cases hF
    have kk := k H locs ls hR hL hS
    rw [List.map_cons] at kk
    have e : am_cv E (.inl (a.tmod b)) = .int (Int32.ofInt a - Int32.ofInt a / Int32.ofInt b * Int32.ofInt b) := congrArg Value.int ((am_irem (am_ok2 ok).1 (am_ok2 ok).2).symm)
    rw [e] at kk
    exact lv_irem X.1 X.2.1 hd (fun q => hz ((am_ieq (am_ok2 ok).2 am_w0).mp (q.trans am_i0.symm))) kk
  · cases hF
theorem sn_iushr (hd : decode cc pc = .ok (.iushr, 1)) : am_Sn cc own ret nL nm scr pc (o_i2 (fun a b => am_ushr a b) (pc + 1)) := by
  intro p l e R s m args below meth c Q E n0 s0 hscr X lv st h pc' lv' st' h' hF ok rm k H locs ls hR hL hS
  unfold o_i2 at hF
  split at hF
  · rename_i b a r
    cases hF
    exact lv_iushr X.1 X.2.1 hd (v := Int32.ofInt (am_ushr a b)) (am_io _).symm (k H locs ls hR hL hS)
  · cases hF
theorem sn_ladd (hd : decode cc pc = .ok (.ladd, 1)) : am_Sn cc own ret nL nm scr pc (o_l2 (fun a b => am_W (a + b)) (pc + 1)) := by
  intro p l e R s m args below meth c Q E n0 s0 hscr X lv st h pc' lv' st' h' hF ok rm k H locs ls hR hL hS
  unfold o_l2 at hF
  split at hF
  · rename_i b a r
    cases hF
    have kk := k H locs ls hR hL hS
    rw [List.map_cons] at kk
    have e : am_cv E (.inr (.inl (am_W (a + b)))) = .long (Int64.ofInt a + Int64.ofInt b) := congrArg Value.long ((am_ladd a b).symm)
    rw [e] at kk
    exact lv_ladd X.1 X.2.1 hd kk
  · cases hF
theorem sn_lsub (hd : decode cc pc = .ok (.lsub, 1)) : am_Sn cc own ret nL nm scr pc (o_l2 (fun a b => am_W (a - b)) (pc + 1)) := by
  intro p l e R s m args below meth c Q E n0 s0 hscr X lv st h pc' lv' st' h' hF ok rm k H locs ls hR hL hS
  unfold o_l2 at hF
  split at hF
  · rename_i b a r
    cases hF
    have kk := k H locs ls hR hL hS
    rw [List.map_cons] at kk
    have e : am_cv E (.inr (.inl (am_W (a - b)))) = .long (Int64.ofInt a - Int64.ofInt b) := congrArg Value.long ((am_lsub a b).symm)
    rw [e] at kk
    exact lv_lsub X.1 X.2.1 hd kk
  · cases hF
theorem sn_lmul (hd : decode cc pc = .ok (.lmul, 1)) : am_Sn cc own ret nL nm scr pc (o_l2 (fun a b => am_W (a * b)) (pc + 1)) := by
  intro p l e R s m args below meth c Q E n0 s0 hscr X lv st h pc' lv' st' h' hF ok rm k H locs ls hR hL hS
  unfold o_l2 at hF
  split at hF
  · rename_i b a r
    cases hF
    have kk := k H locs ls hR hL hS
    rw [List.map_cons] at kk
    have e : am_cv E (.inr (.inl (am_W (a * b)))) = .long (Int64.ofInt a * Int64.ofInt b) := congrArg Value.long ((am_lmul a b).symm)
    rw [e] at kk
    exact lv_lmul X.1 X.2.1 hd kk
  · cases hF
theorem sn_land (hd : decode cc pc = .ok (.land, 1)) : am_Sn cc own ret nL nm scr pc (o_l2 (fun a b => am_land a b) (pc + 1)) := by
  intro p l e R s m args below meth c Q E n0 s0 hscr X lv st h pc' lv' st' h' hF ok rm k H locs ls hR hL hS
  unfold o_l2 at hF
  split at hF
  · rename_i b a r
    cases hF
    have kk := k H locs ls hR hL hS
    rw [List.map_cons] at kk
    have e : am_cv E (.inr (.inl (am_land a b))) = .long (Int64.ofInt a &&& Int64.ofInt b) := congrArg Value.long (am_lo _)
    rw [e] at kk
    exact lv_land X.1 X.2.1 hd kk
  · cases hF
theorem sn_lor (hd : decode cc pc = .ok (.lor, 1)) : am_Sn cc own ret nL nm scr pc (o_l2 (fun a b => am_lor a b) (pc + 1)) := by
  intro p l e R s m args below meth c Q E n0 s0 hscr X lv st h pc' lv' st' h' hF ok rm k H locs ls hR hL hS
  unfold o_l2 at hF
  split at hF
  · rename_i b a r
    cases hF
    have kk := k H locs ls hR hL hS
    rw [List.map_cons] at kk
    have e : am_cv E (.inr (.inl (am_lor a b))) = .long (Int64.ofInt a ||| Int64.ofInt b) := congrArg Value.long (am_lo _)
    rw [e] at kk
    exact lv_lor X.1 X.2.1 hd kk
  · cases hF
theorem sn_ldiv (hd : decode cc pc = .ok (.ldiv, 1)) : am_Sn cc own ret nL nm scr pc (o_l2z (fun a b => am_W (a.tdiv b)) (pc + 1)) := by
  intro p l e R s m args below meth c Q E n0 s0 hscr X lv st h pc' lv' st' h' hF ok rm k H locs ls hR hL hS
  unfold o_l2z at hF
  split at hF
  · rename_i b a r
    split at hF
    · cases hF
    rename_i hz
    cases hF
    have kk := k H locs ls hR hL hS
    rw [List.map_cons] at kk
    have e : am_cv E (.inr (.inl (am_W (a.tdiv b)))) = .long (Int64.ofInt a / Int64.ofInt b) := congrArg Value.long ((am_ldiv (am_ok2 ok).1 (am_ok2 ok).2).symm)
    rw [e] at kk
    exact lv_ldiv X.1 X.2.1 hd (fun q => hz ((am_leq (am_ok2 ok).2 (by decide +kernel)).mp (q.trans (by decide +kernel)))) kk
  · cases hF
theorem sn_lrem (hd : decode cc pc = .ok (.lrem, 1)) : am_Sn cc own ret nL nm scr pc (o_l2z (fun a b => a.tmod b) (pc + 1)) := by
  intro p l e R s m args below meth c Q E n0 s0 hscr X lv st h pc' lv' st' h' hF ok rm k H locs ls hR hL hS
  unfold o_l2z at hF
  split at hF
  · rename_i b a r
    split at hF
    · cases hF
    rename_i hz
    cases hF
    have kk := k H locs ls hR hL hS
    rw [List.map_cons] at kk
    have e : am_cv E (.inr (.inl (a.tmod b))) = .long (Int64.ofInt a - Int64.ofInt a / Int64.ofInt b * Int64.ofInt b) := congrArg Value.long ((am_lrem (am_ok2 ok).1 (am_ok2 ok).2).symm)
    rw [e] at kk
    exact lv_lrem X.1 X.2.1 hd (fun q => hz ((am_leq (am_ok2 ok).2 (by decide +kernel)).mp (q.trans (by decide +kernel)))) kk
  · cases hF
theorem sn_lshl (hd : decode cc pc = .ok (.lshl, 1)) : am_Sn cc own ret nL nm scr pc (o_lsh (fun a b => am_lshl a b) (pc + 1)) := by
  intro p l e R s m args below meth c Q E n0 s0 hscr X lv st h pc' lv' st' h' hF ok rm k H locs ls hR hL hS
  unfold o_lsh at hF
  split at hF
  · rename_i b a r
    cases hF
    exact lv_lshl X.1 X.2.1 hd (v := Int64.ofInt (am_lshl a b)) (am_lo _).symm (k H locs ls hR hL hS)
  · cases hF
theorem sn_lshr (hd : decode cc pc = .ok (.lshr, 1)) : am_Sn cc own ret nL nm scr pc (o_lsh (fun a b => am_lshr a b) (pc + 1)) := by
  intro p l e R s m args below meth c Q E n0 s0 hscr X lv st h pc' lv' st' h' hF ok rm k H locs ls hR hL hS
  unfold o_lsh at hF
  split at hF
  · rename_i b a r
    cases hF
    exact lv_lshr X.1 X.2.1 hd (v := Int64.ofInt (am_lshr a b)) (am_lo _).symm (k H locs ls hR hL hS)
  · cases hF
theorem sn_lcmp (hd : decode cc pc = .ok (.lcmp, 1)) : am_Sn cc own ret nL nm scr pc (o_lcmp (pc + 1)) := by
  intro p l e R s m args below meth c Q E n0 s0 hscr X lv st h pc' lv' st' h' hF ok rm k H locs ls hR hL hS
  unfold o_lcmp at hF
  split at hF
  · rename_i b a r
    cases hF
    have kk := k H locs ls hR hL hS
    rw [List.map_cons] at kk
    have e : am_cv E (.inl (if a < b then -1 else if a = b then 0 else 1)) = .int (lg_cmp (Int64.ofInt a) (Int64.ofInt b)) := by
      have h1 := am_llt (am_ok2 ok).2 (am_ok2 ok).1
      have h2 := am_leq (am_ok2 ok).1 (am_ok2 ok).2
      show Value.int (Int32.ofInt _) = _
      unfold lg_cmp
      by_cases q1 : b < a
      · rw [if_neg (by omega), if_neg (by omega), if_pos (h1.mpr q1)]; rfl
      · rw [if_neg (fun z => q1 (h1.mp z))]
        by_cases q2 : a = b
        · rw [if_neg (by omega), if_pos q2, if_pos (h2.mpr q2)]; rfl
        · rw [if_pos (by omega), if_neg (fun z => q2 (h2.mp z))]; rfl
    rw [e] at kk
    exact W.lcmp X.1 X.2.1 hd kk
  · cases hF
theorem sn_i2l (hd : decode cc pc = .ok (.i2l, 1)) : am_Sn cc own ret nL nm scr pc (o_i2l (pc + 1)) := by
  intro p l e R s m args below meth c Q E n0 s0 hscr X lv st h pc' lv' st' h' hF ok rm k H locs ls hR hL hS
  unfold o_i2l at hF
  split at hF
  · rename_i a r
    cases hF
    exact lv_i2l X.1 X.2.1 hd (am_i2l' (am_ok1 ok)) (k H locs ls hR hL hS)
  · cases hF
theorem sn_l2i (hd : decode cc pc = .ok (.l2i, 1)) : am_Sn cc own ret nL nm scr pc (o_l2i (pc + 1)) := by
  intro p l e R s m args below meth c Q E n0 s0 hscr X lv st h pc' lv' st' h' hF ok rm k H locs ls hR hL hS
  unfold o_l2i at hF
  split at hF
  · rename_i a r
    cases hF
    exact lv_l2i X.1 X.2.1 hd am_l2i' (k H locs ls hR hL hS)
  · cases hF
theorem sn_i2b (hd : decode cc pc = .ok (.i2b, 1)) : am_Sn cc own ret nL nm scr pc (o_i1 (fun a => Int.bmod a 256) (pc + 1)) := by
  intro p l e R s m args below meth c Q E n0 s0 hscr X lv st h pc' lv' st' h' hF ok rm k H locs ls hR hL hS
  unfold o_i1 at hF
  split at hF
  · rename_i a r
    cases hF
    exact lv_i2b X.1 X.2.1 hd am_i2b' (k H locs ls hR hL hS)
  · cases hF
theorem sn_i2s (hd : decode cc pc = .ok (.i2s, 1)) : am_Sn cc own ret nL nm scr pc (o_i1 (fun a => Int.bmod a 65536) (pc + 1)) := by
  intro p l e R s m args below meth c Q E n0 s0 hscr X lv st h pc' lv' st' h' hF ok rm k H locs ls hR hL hS
  unfold o_i1 at hF
  split at hF
  · rename_i a r
    cases hF
    exact lv_i2s X.1 X.2.1 hd am_i2s' (k H locs ls hR hL hS)
  · cases hF
theorem sn_i2c (hd : decode cc pc = .ok (.i2c, 1)) : am_Sn cc own ret nL nm scr pc (o_i1 (fun a => am_i2c a) (pc + 1)) := by
  intro p l e R s m args below meth c Q E n0 s0 hscr X lv st h pc' lv' st' h' hF ok rm k H locs ls hR hL hS
  unfold o_i1 at hF
  split at hF
  · rename_i a r
    cases hF
    exact lv_i2c X.1 X.2.1 hd (am_io _).symm (k H locs ls hR hL hS)
  · cases hF
theorem sn_ineg (hd : decode cc pc = .ok (.ineg, 1)) : am_Sn cc own ret nL nm scr pc (o_i1 (fun a => am_w (-a)) (pc + 1)) := by
  intro p l e R s m args below meth c Q E n0 s0 hscr X lv st h pc' lv' st' h' hF ok rm k H locs ls hR hL hS
  unfold o_i1 at hF
  split at hF
  · rename_i a r
    cases hF
    have kk := k H locs ls hR hL hS
    rw [List.map_cons] at kk
    have e : am_cv E (.inl (am_w (-a))) = .int (0 - Int32.ofInt a) := congrArg Value.int (by rw [← am_ineg, Int32.zero_sub])
    rw [e] at kk
    exact lv_ineg X.1 X.2.1 hd kk
  · cases hF
theorem sn_dup (hd : decode cc pc = .ok (.dup, 1)) : am_Sn cc own ret nL nm scr pc (o_dup (pc + 1)) := by
  intro p l e R s m args below meth c Q E n0 s0 hscr X lv st h pc' lv' st' h' hF ok rm k H locs ls hR hL hS
  unfold o_dup at hF
  split at hF
  · cases hF
    exact lv_dup X.1 X.2.1 hd rfl (k H locs ls hR hL hS)
  · cases hF
    exact lv_dup X.1 X.2.1 hd (am_cv_cat _) (k H locs ls hR hL hS)
  · cases hF
theorem sn_dup2 (hd : decode cc pc = .ok (.dup2, 1)) : am_Sn cc own ret nL nm scr pc (o_dup2 (pc + 1)) := by
  intro p l e R s m args below meth c Q E n0 s0 hscr X lv st h pc' lv' st' h' hF ok rm k H locs ls hR hL hS
  unfold o_dup2 at hF
  split at hF
  · cases hF
    exact lv_dup2_2 X.1 X.2.1 hd rfl (k H locs ls hR hL hS)
  · cases hF
    exact lv_dup2_11 X.1 X.2.1 hd rfl (am_cv_cat _) (k H locs ls hR hL hS)
  · cases hF
theorem sn_pop (hd : decode cc pc = .ok (.pop, 1)) : am_Sn cc own ret nL nm scr pc (o_pop (pc + 1)) := by
  intro p l e R s m args below meth c Q E n0 s0 hscr X lv st h pc' lv' st' h' hF ok rm k H locs ls hR hL hS
  unfold o_pop at hF
  split at hF
  · cases hF
    exact lv_pop X.1 X.2.1 hd rfl (k H locs ls hR hL hS)
  · cases hF
    exact lv_pop X.1 X.2.1 hd (am_cv_cat _) (k H locs ls hR hL hS)
  · cases hF
theorem sn_pop2 (hd : decode cc pc = .ok (.pop2, 1)) : am_Sn cc own ret nL nm scr pc (o_pop2 (pc + 1)) := by
  intro p l e R s m args below meth c Q E n0 s0 hscr X lv st h pc' lv' st' h' hF ok rm k H locs ls hR hL hS
  unfold o_pop2 at hF
  split at hF
  · cases hF
    exact lv_pop2_2 X.1 X.2.1 hd rfl (k H locs ls hR hL hS)
  · cases hF
theorem sn_if_eq {off : Int} {tgt : Nat} (hd : decode cc pc = .ok (.ifCond .eq off, 3)) (ht : (pc : Int) + off = (tgt : Int)) : am_Sn cc own ret nL nm scr pc (o_if (fun x => decide (x = 0)) tgt (pc + 3)) := by
  intro p l e R s m args below meth c Q E n0 s0 hscr X lv st h pc' lv' st' h' hF ok rm k H locs ls hR hL hS
  unfold o_if at hF
  split at hF
  · rename_i x r
    cases hF
    have hx := am_ok1 ok
    have h1 := am_ieq hx am_w0
    have h2 := am_ilt hx am_w0
    have h3 := am_ile hx am_w0
    have h4 := am_ilt am_w0 hx
    have h5 := am_ile am_w0 hx
    rw [am_i0] at h1 h2 h3 h4 h5
    have kk := k H locs ls hR hL hS
    refine lv_if_eq X.1 X.2.1 hd ht (fun q => ?_) (fun q => ?_)
    · simp only [h1, h2, h3, h4, h5, ge_iff_le, gt_iff_lt, ne_eq] at q
      rw [if_pos (by simp only [decide_eq_true_eq]; omega)] at kk
      exact kk
    · simp only [h1, h2, h3, h4, h5, ge_iff_le, gt_iff_lt, ne_eq] at q
      rw [if_neg (by simp only [decide_eq_true_eq]; omega)] at kk
      exact kk
  · cases hF
theorem sn_ic_eq {off : Int} {tgt : Nat} (hd : decode cc pc = .ok (.if_icmp .eq off, 3)) (ht : (pc : Int) + off = (tgt : Int)) : am_Sn cc own ret nL nm scr pc (o_ic (fun x y => decide (x = y)) tgt (pc + 3)) := by
  intro p l e R s m args below meth c Q E n0 s0 hscr X lv st h pc' lv' st' h' hF ok rm k H locs ls hR hL hS
  unfold o_ic at hF
  split at hF
  · rename_i y x r
    cases hF
    have hx := (am_ok2 ok).1
    have hy := (am_ok2 ok).2
    have h1 := am_ieq hx hy
    have h2 := am_ilt hx hy
    have h3 := am_ile hx hy
    have h4 := am_ilt hy hx
    have h5 := am_ile hy hx
    have kk := k H locs ls hR hL hS
    refine lv_icmp_eq X.1 X.2.1 hd ht (fun q => ?_) (fun q => ?_)
    · simp only [h1, h2, h3, h4, h5, ge_iff_le, gt_iff_lt, ne_eq] at q
      rw [if_pos (by simp only [decide_eq_true_eq]; omega)] at kk
      exact kk
    · simp only [h1, h2, h3, h4, h5, ge_iff_le, gt_iff_lt, ne_eq] at q
      rw [if_neg (by simp only [decide_eq_true_eq]; omega)] at kk
      exact kk
  · cases hF
theorem sn_if_ne {off : Int} {tgt : Nat} (hd : decode cc pc = .ok (.ifCond .ne off, 3)) (ht : (pc : Int) + off = (tgt : Int)) : am_Sn cc own ret nL nm scr pc (o_if (fun x => decide (¬ x = 0)) tgt (pc + 3)) := by
  intro p l e R s m args below meth c Q E n0 s0 hscr X lv st h pc' lv' st' h' hF ok rm k H locs ls hR hL hS
  unfold o_if at hF
  split at hF
  · rename_i x r
    cases hF
    have hx := am_ok1 ok
    have h1 := am_ieq hx am_w0
    have h2 := am_ilt hx am_w0
    have h3 := am_ile hx am_w0
    have h4 := am_ilt am_w0 hx
    have h5 := am_ile am_w0 hx
    rw [am_i0] at h1 h2 h3 h4 h5
    have kk := k H locs ls hR hL hS
    refine lv_if_ne X.1 X.2.1 hd ht (fun q => ?_) (fun q => ?_)
    · simp only [h1, h2, h3, h4, h5, ge_iff_le, gt_iff_lt, ne_eq] at q
      rw [if_pos (by simp only [decide_eq_true_eq]; omega)] at kk
      exact kk
    · simp only [h1, h2, h3, h4, h5, ge_iff_le, gt_iff_lt, ne_eq] at q
      rw [if_neg (by simp only [decide_eq_true_eq]; omega)] at kk
      exact kk
  · cases hF
theorem sn_ic_ne {off : Int} {tgt : Nat} (hd : decode cc pc = .ok (.if_icmp .ne off, 3)) (ht : (pc : Int) + off = (tgt : Int)) : am_Sn cc own ret nL nm scr pc (o_ic (fun x y => decide (¬ x = y)) tgt (pc + 3)) := by
  intro p l e R s m args below meth c Q E n0 s0 hscr X lv st h pc' lv' st' h' hF ok rm k H locs ls hR hL hS
  unfold o_ic at hF
  split at hF
  · rename_i y x r
    cases hF
    have hx := (am_ok2 ok).1
    have hy := (am_ok2 ok).2
    have h1 := am_ieq hx hy
    have h2 := am_ilt hx hy
    have h3 := am_ile hx hy
    have h4 := am_ilt hy hx
    have h5 := am_ile hy hx
    have kk := k H locs ls hR hL hS
    refine lv_icmp_ne X.1 X.2.1 hd ht (fun q => ?_) (fun q => ?_)
    · simp only [h1, h2, h3, h4, h5, ge_iff_le, gt_iff_lt, ne_eq] at q
      rw [if_pos (by simp only [decide_eq_true_eq]; omega)] at kk
      exact kk
    · simp only [h1, h2, h3, h4, h5, ge_iff_le, gt_iff_lt, ne_eq] at q
      rw [if_neg (by simp only [decide_eq_true_eq]; omega)] at kk
      exact kk
  · cases hF
theorem sn_if_lt {off : Int} {tgt : Nat} (hd : decode cc pc = .ok (.ifCond .lt off, 3)) (ht : (pc : Int) + off = (tgt : Int)) : am_Sn cc own ret nL nm scr pc (o_if (fun x => decide (x < 0)) tgt (pc + 3)) := by
  intro p l e R s m args below meth c Q E n0 s0 hscr X lv st h pc' lv' st' h' hF ok rm k H locs ls hR hL hS
  unfold o_if at hF
  split at hF
  · rename_i x r
    cases hF
    have hx := am_ok1 ok
    have h1 := am_ieq hx am_w0
    have h2 := am_ilt hx am_w0
    have h3 := am_ile hx am_w0
    have h4 := am_ilt am_w0 hx
    have h5 := am_ile am_w0 hx
    rw [am_i0] at h1 h2 h3 h4 h5
    have kk := k H locs ls hR hL hS
    refine lv_if_lt X.1 X.2.1 hd ht (fun q => ?_) (fun q => ?_)
    · simp only [h1, h2, h3, h4, h5, ge_iff_le, gt_iff_lt, ne_eq] at q
      rw [if_pos (by simp only [decide_eq_true_eq]; omega)] at kk
      exact kk
    · simp only [h1, h2, h3, h4, h5, ge_iff_le, gt_iff_lt, ne_eq] at q
      rw [if_neg (by simp only [decide_eq_true_eq]; omega)] at kk
      exact kk
  · cases hF
theorem sn_ic_lt {off : Int} {tgt : Nat} (hd : decode cc pc = .ok (.if_icmp .lt off, 3)) (ht : (pc : Int) + off = (tgt : Int)) : am_Sn cc own ret nL nm scr pc (o_ic (fun x y => decide (x < y)) tgt (pc + 3)) := by
  intro p l e R s m args below meth c Q E n0 s0 hscr X lv st h pc' lv' st' h' hF ok rm k H locs ls hR hL hS
  unfold o_ic at hF
  split at hF
  · rename_i y x r
    cases hF
    have hx := (am_ok2 ok).1
    have hy := (am_ok2 ok).2
    have h1 := am_ieq hx hy
    have h2 := am_ilt hx hy
    have h3 := am_ile hx hy
    have h4 := am_ilt hy hx
    have h5 := am_ile hy hx
    have kk := k H locs ls hR hL hS
    refine lv_icmp_lt X.1 X.2.1 hd ht (fun q => ?_) (fun q => ?_)
    · simp only [h1, h2, h3, h4, h5, ge_iff_le, gt_iff_lt, ne_eq] at q
      rw [if_pos (by simp only [decide_eq_true_eq]; omega)] at kk
      exact kk
    · simp only [h1, h2, h3, h4, h5, ge_iff_le, gt_iff_lt, ne_eq] at q
      rw [if_neg (by simp only [decide_eq_true_eq]; omega)] at kk
      exact kk
  · cases hF
theorem sn_if_ge {off : Int} {tgt : Nat} (hd : decode cc pc = .ok (.ifCond .ge off, 3)) (ht : (pc : Int) + off = (tgt : Int)) : am_Sn cc own ret nL nm scr pc (o_if (fun x => decide (¬ x < 0)) tgt (pc + 3)) := by
  intro p l e R s m args below meth c Q E n0 s0 hscr X lv st h pc' lv' st' h' hF ok rm k H locs ls hR hL hS
  unfold o_if at hF
  split at hF
  · rename_i x r
    cases hF
    have hx := am_ok1 ok
    have h1 := am_ieq hx am_w0
    have h2 := am_ilt hx am_w0
    have h3 := am_ile hx am_w0
    have h4 := am_ilt am_w0 hx
    have h5 := am_ile am_w0 hx
    rw [am_i0] at h1 h2 h3 h4 h5
    have kk := k H locs ls hR hL hS
    refine lv_if_ge X.1 X.2.1 hd ht (fun q => ?_) (fun q => ?_)
    · simp only [h1, h2, h3, h4, h5, ge_iff_le, gt_iff_lt, ne_eq] at q
      rw [if_pos (by simp only [decide_eq_true_eq]; omega)] at kk
      exact kk
    · simp only [h1, h2, h3, h4, h5, ge_iff_le, gt_iff_lt, ne_eq] at q
      rw [if_neg (by simp only [decide_eq_true_eq]; omega)] at kk
      exact kk
  · cases hF
theorem sn_ic_ge {off : Int} {tgt : Nat} (hd : decode cc pc = .ok (.if_icmp .ge off, 3)) (ht : (pc : Int) + off = (tgt : Int)) : am_Sn cc own ret nL nm scr pc (o_ic (fun x y => decide (¬ x < y)) tgt (pc + 3)) := by
  intro p l e R s m args below meth c Q E n0 s0 hscr X lv st h pc' lv' st' h' hF ok rm k H locs ls hR hL hS
  unfold o_ic at hF
  split at hF
  · rename_i y x r
    cases hF
    have hx := (am_ok2 ok).1
    have hy := (am_ok2 ok).2
    have h1 := am_ieq hx hy
    have h2 := am_ilt hx hy
    have h3 := am_ile hx hy
    have h4 := am_ilt hy hx
    have h5 := am_ile hy hx
    have kk := k H locs ls hR hL hS
    refine lv_icmp_ge X.1 X.2.1 hd ht (fun q => ?_) (fun q => ?_)
    · simp only [h1, h2, h3, h4, h5, ge_iff_le, gt_iff_lt, ne_eq] at q
      rw [if_pos (by simp only [decide_eq_true_eq]; omega)] at kk
      exact kk
    · simp only [h1, h2, h3, h4, h5, ge_iff_le, gt_iff_lt, ne_eq] at q
      rw [if_neg (by simp only [decide_eq_true_eq]; omega)] at kk
      exact kk
  · cases hF
theorem sn_if_gt {off : Int} {tgt : Nat} (hd : decode cc pc = .ok (.ifCond .gt off, 3)) (ht : (pc : Int) + off = (tgt : Int)) : am_Sn cc own ret nL nm scr pc (o_if (fun x => decide (0 < x)) tgt (pc + 3)) := by
  intro p l e R s m args below meth c Q E n0 s0 hscr X lv st h pc' lv' st' h' hF ok rm k H locs ls hR hL hS
  unfold o_if at hF
  split at hF
  · rename_i x r
    cases hF
    have hx := am_ok1 ok
    have h1 := am_ieq hx am_w0
    have h2 := am_ilt hx am_w0
    have h3 := am_ile hx am_w0
    have h4 := am_ilt am_w0 hx
    have h5 := am_ile am_w0 hx
    rw [am_i0] at h1 h2 h3 h4 h5
    have kk := k H locs ls hR hL hS
    refine lv_if_gt X.1 X.2.1 hd ht (fun q => ?_) (fun q => ?_)
    · simp only [h1, h2, h3, h4, h5, ge_iff_le, gt_iff_lt, ne_eq] at q
      rw [if_pos (by simp only [decide_eq_true_eq]; omega)] at kk
      exact kk
    · simp only [h1, h2, h3, h4, h5, ge_iff_le, gt_iff_lt, ne_eq] at q
      rw [if_neg (by simp only [decide_eq_true_eq]; omega)] at kk
      exact kk
  · cases hF
theorem sn_ic_gt {off : Int} {tgt : Nat} (hd : decode cc pc = .ok (.if_icmp .gt off, 3)) (ht : (pc : Int) + off = (tgt : Int)) : am_Sn cc own ret nL nm scr pc (o_ic (fun x y => decide (y < x)) tgt (pc + 3)) := by
  intro p l e R s m args below meth c Q E n0 s0 hscr X lv st h pc' lv' st' h' hF ok rm k H locs ls hR hL hS
  unfold o_ic at hF
  split at hF
  · rename_i y x r
    cases hF
    have hx := (am_ok2 ok).1
    have hy := (am_ok2 ok).2
    have h1 := am_ieq hx hy
    have h2 := am_ilt hx hy
    have h3 := am_ile hx hy
    have h4 := am_ilt hy hx
    have h5 := am_ile hy hx
    have kk := k H locs ls hR hL hS
    refine lv_icmp_gt X.1 X.2.1 hd ht (fun q => ?_) (fun q => ?_)
    · simp only [h1, h2, h3, h4, h5, ge_iff_le, gt_iff_lt, ne_eq] at q
      rw [if_pos (by simp only [decide_eq_true_eq]; omega)] at kk
      exact kk
    · simp only [h1, h2, h3, h4, h5, ge_iff_le, gt_iff_lt, ne_eq] at q
      rw [if_neg (by simp only [decide_eq_true_eq]; omega)] at kk
      exact kk
  · cases hF
theorem sn_if_le {off : Int} {tgt : Nat} (hd : decode cc pc = .ok (.ifCond .le off, 3)) (ht : (pc : Int) + off = (tgt : Int)) : am_Sn cc own ret nL nm scr pc (o_if (fun x => decide (x ≤ 0)) tgt (pc + 3)) := by
  intro p l e R s m args below meth c Q E n0 s0 hscr X lv st h pc' lv' st' h' hF ok rm k H locs ls hR hL hS
  unfold o_if at hF
  split at hF
  · rename_i x r
    cases hF
    have hx := am_ok1 ok
    have h1 := am_ieq hx am_w0
    have h2 := am_ilt hx am_w0
    have h3 := am_ile hx am_w0
    have h4 := am_ilt am_w0 hx
    have h5 := am_ile am_w0 hx
    rw [am_i0] at h1 h2 h3 h4 h5
    have kk := k H locs ls hR hL hS
    refine lv_if_le X.1 X.2.1 hd ht (fun q => ?_) (fun q => ?_)
    · simp only [h1, h2, h3, h4, h5, ge_iff_le, gt_iff_lt, ne_eq] at q
      rw [if_pos (by simp only [decide_eq_true_eq]; omega)] at kk
      exact kk
    · simp only [h1, h2, h3, h4, h5, ge_iff_le, gt_iff_lt, ne_eq] at q
      rw [if_neg (by simp only [decide_eq_true_eq]; omega)] at kk
      exact kk
  · cases hF
theorem sn_ic_le {off : Int} {tgt : Nat} (hd : decode cc pc = .ok (.if_icmp .le off, 3)) (ht : (pc : Int) + off = (tgt : Int)) : am_Sn cc own ret nL nm scr pc (o_ic (fun x y => decide (x ≤ y)) tgt (pc + 3)) := by
  intro p l e R s m args below meth c Q E n0 s0 hscr X lv st h pc' lv' st' h' hF ok rm k H locs ls hR hL hS
  unfold o_ic at hF
  split at hF
  · rename_i y x r
    cases hF
    have hx := (am_ok2 ok).1
    have hy := (am_ok2 ok).2
    have h1 := am_ieq hx hy
    have h2 := am_ilt hx hy
    have h3 := am_ile hx hy
    have h4 := am_ilt hy hx
    have h5 := am_ile hy hx
    have kk := k H locs ls hR hL hS
    refine lv_icmp_le X.1 X.2.1 hd ht (fun q => ?_) (fun q => ?_)
    · simp only [h1, h2, h3, h4, h5, ge_iff_le, gt_iff_lt, ne_eq] at q
      rw [if_pos (by simp only [decide_eq_true_eq]; omega)] at kk
      exact kk
    · simp only [h1, h2, h3, h4, h5, ge_iff_le, gt_iff_lt, ne_eq] at q
      rw [if_neg (by simp only [decide_eq_true_eq]; omega)] at kk
      exact kk
  · cases hF
theorem sn_ifnn {off : Int} {tgt : Nat} (hd : decode cc pc = .ok (.ifnonnull off, 3)) (ht : (pc : Int) + off = (tgt : Int)) : am_Sn cc own ret nL nm scr pc (o_ifnn tgt (pc + 3)) := by
  intro p l e R s m args below meth c Q E n0 s0 hscr X lv st h pc' lv' st' h' hF ok rm k H locs ls hR hL hS
  unfold o_ifnn at hF
  split at hF
  · rename_i x r
    split at hF
    · rename_i hx
      cases hF
      subst hx
      exact lv_ifnonnullN X.1 X.2.1 hd (k H locs ls hR hL hS)
    · split at hF
      · rename_i hx
        cases hF
        rw [List.map_cons, am_cv_ref hx]
        exact lv_ifnonnull X.1 X.2.1 hd ht (k H locs ls hR hL hS)
      · cases hF
  · cases hF
theorem sn_goto {off : Int} {tgt : Nat} (hd : decode cc pc = .ok (.goto off, 3)) (ht : (pc : Int) + off = (tgt : Int)) : am_Sn cc own ret nL nm scr pc (o_goto tgt) := by
  intro p l e R s m args below meth c Q E n0 s0 hscr X lv st h pc' lv' st' h' hF ok rm k H locs ls hR hL hS
  cases hF
  exact lv_goto X.1 X.2.1 hd ht (k H locs ls hR hL hS)
theorem sn_tsw {dflt lo hi : Int} {offs : Array Int} {len : Nat} {f : Int → Nat} (hd : decode cc pc = .ok (.tableswitch dflt lo hi offs, len)) (h1 : ∀ x : Int, x < lo ∨ hi < x → (pc : Int) + dflt = (f x : Int)) (h2 : ∀ x : Int, ¬ x < lo → ¬ hi < x → ∃ off, offs[(x - lo).toNat]? = some off ∧ (pc : Int) + off = (f x : Int)) : am_Sn cc own ret nL nm scr pc (o_tsw f) := by
  intro p l e R s m args below meth c Q E n0 s0 hscr X lv st h pc' lv' st' h' hF ok rm k H locs ls hR hL hS
  unfold o_tsw at hF
  split at hF
  · rename_i x r
    cases hF
    have hx : (Int32.ofInt x).toInt = x := by rw [am_ti]; exact am_ok1 ok
    by_cases q : x < lo ∨ hi < x
    · exact lv_tableOut X.1 X.2.1 hd (by rw [hx]; exact q) (h1 x q) (k H locs ls hR hL hS)
    · have q1 : ¬ x < lo := fun z => q (Or.inl z)
      have q2 : ¬ hi < x := fun z => q (Or.inr z)
      obtain ⟨off, e1, e2⟩ := h2 x q1 q2
      exact lv_tableIn X.1 X.2.1 hd (by rw [hx]; exact q1) (by rw [hx]; exact q2) (by rw [hx]; exact e1) e2 (k H locs ls hR hL hS)
  · cases hF
end AMS2
