/-! one step of the small machine is one of the real one: rows of references, copies, texts, the script -/
section AMS6
variable {cc : ByteArray} {own nm : String} {ret : Option FieldType} {nL pc : Nat} {scr : Nat × (Nat → Int)} {c0 k0 N idx : Nat} {C : String} {T : u_T} {ty : Nat → FieldType}
theorem am_W_sz {p : Program} {l : Launch} {e : Env} {R : Room} {s : State} {m : MethodId} {args : Array Value} {below : List Frame} {meth : Method} {c : Code} {H : Heap} {locs : List Loc} {cells slots : Nat} {Q : State → Prop} {g : JFrame} (k : H.size ≤ s.heap.size + cells → W p l e R s m args below meth c H locs cells slots Q g) : W p l e R s m args below meth c H locs cells slots Q g :=
  fun T hT X => k (by rw [← hT]; exact X.heapSize) T hT X
theorem sn_anew {t : Nat} (ht : (t = 5 ∧ C = "SnorePlay$Play") ∨ (t = 6 ∧ C = "SnorePlay$Tray")) (hl : Cond.classLink own idx C ∈ am_tb) (hov : Cond.arrayOver (.object C) ∈ am_tb) (hd : decode cc pc = .ok (.anewarray idx, 3)) : am_Sn cc own ret nL nm scr pc (o_anew t (pc + 3)) := by
  intro p l e R s m args below meth c Q E n0 s0 hscr X lv st h pc' lv' st' h' hF ok rm k H locs ls hR hL hS
  unfold o_anew at hF
  split at hF
  · rename_i n r
    split at hF
    · rename_i hn
      cases hF
      obtain ⟨hx, hb, hml, hown, hr, hlk, hnm, hT, hlow⟩ := X
      have hni : am_w n = n := am_ok1 ok
      obtain ⟨r1, r2, r3, r4, -⟩ := rm
      have r3 : h.1 + 1 - n0 ≤ R.cells := r3
      have r4 : h.2.1 + n.toNat - s0 ≤ R.slots := r4
      have e2 : H.size = E.2.2.1 + h.1 := hR.1
      refine W.anew hx hb hown (hT.2.1 _ hl args) (hT.2.1 _ hov args) rfl hd rfl (fun q => ?_) (by rw [am_clamp hni]; omega) (by omega) (by rw [am_clamp hni]; omega) fun cA kA comp f1 f2 f3 f4 => ?_
      · have := (am_ilt hni am_w0).mp (by rw [am_i0]; exact q)
        omega
      have hcA : cA = E.2.1 t := by
        have hq := (hT.2.2.1.2 t _ (am_ty_at (E := E) (by omega) (by omega))).2
        rcases ht with ⟨z1, z2⟩ | ⟨z1, z2⟩ <;> subst z1 <;> subst z2 <;> obtain ⟨_, _, _, _, _, hq⟩ := hq <;> exact Option.some.inj (f1.symm.trans hq)
      subst hcA
      rw [am_clamp hni]
      generalize hH1 : H.push ({ cls := E.2.1 t, slots := Array.replicate n.toNat .null, vm := .none } : Cell) = H1
      have z1 : H1.size = H.size + 1 := by rw [← hH1, Array.size_push]
      have e1 : H1[H.size]? = some (arrV (E.2.1 t) n.toNat (fun _ => .null)) := by rw [← hH1, Array.getElem?_push_size, ← arrV_new]
      have o1 : ∀ q : Nat, q < H.size → H1[q]? = H[q]? := fun q hq => by rw [← hH1, Array.getElem?_push, if_neg (Nat.ne_of_lt hq)]
      have kk := k H1 locs ls (hR.push ?_ z1 o1) hL (am_S_push hS z1 o1)
      · rw [List.map_cons, am_cv_ref (by omega)] at kk
        rw [e2]
        rw [show (am_mk h t n.toNat (fun _ => -1)).1 - n0 = h.1 - n0 + 1 by show h.1 + 1 - n0 = _; omega, show (am_mk h t n.toNat (fun _ => -1)).2.1 - s0 = h.2.1 - s0 + n.toNat by show h.2.1 + n.toNat - s0 = _; omega] at kk
        rw [show ((h.1 : Int)).toNat = h.1 by omega] at kk
        exact kk
      · rw [am_ce_r (t := t) (by rw [am_mk_k]) (by omega), am_mk_k, ← e2]
        simp only [am_mk_d]
        exact e1
    · cases hF
  · cases hF
theorem am_HR.of {E : am_E} {h : am_H} {H0 H1 : Heap} {locs : List Loc} (hP : va_P E.1 am_cl_ (am_ws E h) H1) (hlow : am_Low E H0) (hS : va_S (am_A E) H0 H1 locs) (hsz : H1.size ≤ E.2.2.1 + h.1) : am_HR E h H1 := by
  refine ⟨?_, fun q hq => ?_, hP⟩
  · have h0 := hS.1
    have h1 := hlow.1
    rcases Nat.eq_zero_or_pos h.1 with z | z
    · omega
    · have := (hP (h.1 - 1) _ (am_ws_get (by omega))).lt
      simp only at this
      omega
  · have h1 := hlow.1
    rw [hS.2.1 q (by omega) (fun z => by have z : E.2.2.1 ≤ q := z; omega)]
    exact hlow.2 q hq
theorem sn_acpy (hl : Cond.methodLink own idx arraycopyName ∈ am_tb) (hnat : Cond.native arraycopyName ∈ am_tb) (hst : Cond.static arraycopyName ∈ am_tb) (hini : Cond.initialized "java/lang/System" ∈ am_tb) (hd : decode cc pc = .ok (.invokestatic idx, 3)) : am_Sn cc own ret nL nm scr pc (o_acpy (pc + 3)) := by
  intro p l e R s m args below meth c Q E n0 s0 hscr X lv st h pc' lv' st' h' hF ok rm k H locs ls hR hL hS
  unfold o_acpy at hF
  split at hF
  · rename_i n dp b sp a r
    split at hF
    · rename_i ho
      cases hF
      obtain ⟨a0, a1, b0, b1, hab, hn, hdp, hsp, h4, h5, hrm⟩ := ho
      obtain ⟨hx, hb, hml, hown, hr, hlk, hnm, hT, hlow⟩ := X
      have hts : ∀ w ∈ am_tb, w.before args s = true := fun w hw => hT.2.1 w hw args
      obtain ⟨r1, r2, r3, r4, r5, r6, r7⟩ := rm
      have wn : am_w n = n := ok.1 (.inl n) (by simp)
      have wd : am_w dp = dp := ok.1 (.inl dp) (by simp)
      have wsp : am_w sp = sp := ok.1 (.inl sp) (by simp)
      have la := (ok.2.2.2 a.toNat (by omega)).1
      have lb := (ok.2.2.2 b.toNat (by omega)).1
      have hwa := (am_ws_get (E := E) la).trans (by rw [am_ce_i a1 (Or.inl rfl)])
      have hwb := (am_ws_get (E := E) lb).trans (by rw [am_ce_i b1 (Or.inl rfl)])
      have ng : ∀ {z : Int}, am_w z = z → 0 ≤ z → ¬ Int32.ofInt z < 0 := fun {z} wz hz q => by
        have := (am_ilt wz am_w0).mp (by rw [am_i0]; exact q)
        omega
      rw [List.map_cons, List.map_cons, List.map_cons, List.map_cons, List.map_cons, am_cv_ref a0, am_cv_ref b0]
      refine va_copyi hx hb (hml.trans hL.1.symm) hown (hts _ hl) (hts _ hnat) (hts _ hst) (hts _ hini) hT.2.2.1 hR.2.2 am_ws_D hS a.toNat b.toNat 1 1 hwa hwb (am_ty_at (by decide) (by decide)) (am_ty_at (by decide) (by decide)) rfl (ng wsp hsp) (ng wd hdp) (ng wn hn) (by rw [am_clamp wsp, am_clamp wn]; omega) (by rw [am_clamp wd, am_clamp wn]; omega) (fun _ _ => rfl) r5 (Nat.le_trans (Nat.add_le_add_right (m := 8) (by rw [am_cats]; exact hrm) _) (Nat.le_trans (by decide +kernel) r6)) hd (fun H1 locs1 g1 g2 g3 => ?_)
      refine am_W_sz (fun hsz => ?_)
      have hsz1 : H1.size ≤ E.2.2.1 + h.1 := by rw [r7] at hsz; omega
      refine k H1 locs1 ls (am_HR.of ?_ hlow g3 hsz1) hL g3
      rw [← am_ws_set (E := E) (h := h) (h' := am_cpy h a.toNat b.toNat sp.toNat dp.toNat n.toNat) (a := b.toNat) rfl rfl (fun x j hx9 => by unfold am_cpy; simp [hx9])]
      rw [am_ce_i (t := 1) (show ((am_cpy h a.toNat b.toNat sp.toNat dp.toNat n.toNat).2.2.1 b.toNat).1 = 1 from b1) (Or.inl rfl)]
      rw [am_clamp wsp, am_clamp wd, am_clamp wn] at g1
      have e9 : va_cpy (fun i => Int32.ofInt (h.2.2.2 a.toNat i)) (fun i => Int32.ofInt (h.2.2.2 b.toNat i)) sp.toNat dp.toNat n.toNat = fun i => Int32.ofInt ((am_cpy h a.toNat b.toNat sp.toNat dp.toNat n.toNat).2.2.2 b.toNat i) := by
        funext q
        unfold va_cpy am_cpy
        by_cases z : dp.toNat ≤ q ∧ q < dp.toNat + n.toNat
        · rw [if_pos z]
          show _ = Int32.ofInt (if b.toNat = b.toNat ∧ dp.toNat ≤ q ∧ q < dp.toNat + n.toNat then _ else _)
          rw [if_pos ⟨rfl, z⟩]
        · rw [if_neg z]
          show _ = Int32.ofInt (if b.toNat = b.toNat ∧ dp.toNat ≤ q ∧ q < dp.toNat + n.toNat then _ else _)
          rw [if_neg (fun y => z y.2)]
      rw [e9] at g1
      exact g1
    · cases hF
  · cases hF
/-- two rows made at once -/
theorem am_rows_1 (len : Nat) : ∀ (k : Nat) (h : am_H), (am_rows len k h).1 = h.1 + k ∧ (am_rows len k h).2.1 = h.2.1 + k * len := by
  intro k
  induction k with
  | zero => intro h; simp [am_rows]
  | succ k ih =>
    intro h
    rw [am_rows]
    obtain ⟨h1, h2⟩ := ih (am_mk h 2 len (fun _ => 0))
    rw [h1, h2]
    refine ⟨?_, ?_⟩
    · show h.1 + 1 + k = _; omega
    · show h.2.1 + len + k * len = _; rw [Nat.succ_mul]; omega
theorem am_rows_old (len : Nat) : ∀ (k : Nat) (h : am_H) (a : Nat), a < h.1 → (am_rows len k h).2.2.1 a = h.2.2.1 a ∧ (am_rows len k h).2.2.2 a = h.2.2.2 a := by
  intro k
  induction k with
  | zero => intro h a _; exact ⟨rfl, rfl⟩
  | succ k ih =>
    intro h a ha
    rw [am_rows]
    obtain ⟨h1, h2⟩ := ih (am_mk h 2 len (fun _ => 0)) a (show a < h.1 + 1 by omega)
    rw [h1, h2]
    unfold am_mk
    simp [Nat.ne_of_lt ha]
theorem am_rows_new (len : Nat) : ∀ (k : Nat) (h : am_H) (j : Nat), j < k → (am_rows len k h).2.2.1 (h.1 + j) = (2, len) ∧ (am_rows len k h).2.2.2 (h.1 + j) = fun _ => 0 := by
  intro k
  induction k with
  | zero => intro h j hj; omega
  | succ k ih =>
    intro h j hj
    rw [am_rows]
    cases j with
    | zero =>
      obtain ⟨h1, h2⟩ := am_rows_old len k (am_mk h 2 len (fun _ => 0)) h.1 (show h.1 < h.1 + 1 by omega)
      rw [Nat.add_zero, h1, h2]
      refine ⟨am_mk_k, ?_⟩
      funext i
      exact am_mk_d i
    | succ j =>
      have := ih (am_mk h 2 len (fun _ => 0)) j (by omega)
      rw [show (am_mk h 2 len (fun _ => 0)).1 = h.1 + 1 from rfl] at this
      rw [show h.1 + (j + 1) = h.1 + 1 + j by omega]
      exact this
theorem am_ce_same {E : am_E} {h h' : am_H} {a : Nat} (h1 : h'.2.2.1 a = h.2.2.1 a) (h2 : h'.2.2.2 a = h.2.2.2 a) : am_ce E h' a = am_ce E h a := by
  unfold am_ce
  rw [h1, h2]
end AMS6
