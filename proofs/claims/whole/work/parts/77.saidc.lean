/-! what was said: the class -/
def SL : List Nat := [10, 11, 12, 13, 14, 15, 27, 28, 29]
def gcA (a : Nat → Int) (f : Nat → (Nat → Int) → Int) (dd : Int) (hu : Nat) : Int := if ovA a then 36 else if beatS a f (hu : Int) (stA a) (dd - 1) % 2 = 1 then 36 else soundI (beatS a f (hu : Int) (stA a) (dd - 1)) * 6 + lastI (beatS a f (hu : Int) (stA a) (dd - 1))
def gzA (a : Nat → Int) (f : Nat → (Nat → Int) → Int) (z dd : Int) (k : Nat) (g : Int) : Int := sumZ (fun i => if z.toNat.testBit i = true ∧ gcA a f dd i = g then 1 else 0) k
theorem SL95 : ∀ q ∈ SL, q < 95 := by decide
section SC0
variable {a : Nat → Int} {f : Nat → (Nat → Int) → Int} {z dd B : Int}
theorem gcA_b (r : rok a f B) (hu : Nat) : (0 ≤ gcA a f dd hu ∧ gcA a f dd hu < 37) := by
  unfold gcA
  split
  · omega
  · rename_i q
    have so := (beatS_ok r.1 r.ok (hu := (hu : Int)) (wk := dd - 1) (fun z => q (r.over.mp z))).1
    have l1 := lastI_b so.1
    have l2 := soundI_b so.1
    split <;> omega
theorem gc_iff (r : rok a f B) {i j : Nat} : gcA a f dd i = gcA a f dd j ↔ gvA a f dd i = gvA a f dd j := by
  unfold gcA gvA
  by_cases q : ovA a
  · rw [if_pos q, if_pos q, if_pos q, if_pos q]; simp
  · rw [if_neg q, if_neg q, if_neg q, if_neg q]
    have so := (beatS_ok r.1 r.ok (hu := (i : Int)) (wk := dd - 1) (fun z => q (r.over.mp z))).1
    have sj := (beatS_ok r.1 r.ok (hu := (j : Int)) (wk := dd - 1) (fun z => q (r.over.mp z))).1
    have l1 := lastI_b so.1
    have l2 := soundI_b so.1
    have l3 := lastI_b sj.1
    have l4 := soundI_b sj.1
    by_cases c1 : beatS a f (i : Int) (stA a) (dd - 1) % 2 = 1
    · rw [if_pos c1, if_pos c1]
      by_cases c2 : beatS a f (j : Int) (stA a) (dd - 1) % 2 = 1
      · rw [if_pos c2, if_pos c2]; simp
      · rw [if_neg c2, if_neg c2]; omega
    · rw [if_neg c1, if_neg c1]
      by_cases c2 : beatS a f (j : Int) (stA a) (dd - 1) % 2 = 1
      · rw [if_pos c2, if_pos c2]; omega
      · rw [if_neg c2, if_neg c2]; omega
theorem gz_cn (r : rok a f B) {k : Nat} : ∀ m, gzA a f z dd m (gcA a f dd k) = cnA a f z dd k m := by
  intro m
  unfold gzA cnA
  refine sumZ_congr (fun i hi => ?_)
  show (if z.toNat.testBit i = true ∧ gcA a f dd i = gcA a f dd k then (1 : Int) else 0) = _
  by_cases q : z.toNat.testBit i = true ∧ gvA a f dd i = gvA a f dd k
  · rw [if_pos q, if_pos ⟨q.1, (gc_iff r).mpr q.2⟩]
  · rw [if_neg q, if_neg (fun w => q ⟨w.1, (gc_iff r).mp w.2⟩)]
theorem gz_b : ∀ (m : Nat) (g : Int), 0 ≤ gzA a f z dd m g ∧ gzA a f z dd m g ≤ (m : Int) := by
  intro m g
  unfold gzA
  induction m with
  | zero => simp [sumZ]
  | succ m ih => rw [sumZ_succ]; split <;> omega
/-- the largest group so far -/
def lgP (a : Nat → Int) (f : Nat → (Nat → Int) → Int) (z dd : Int) (k : Nat) (lg : Int) : Prop := (∀ g, gzA a f z dd k g ≤ lg) ∧ (0 ≤ lg ∧ lg ≤ (k : Int)) ∧ (lg = 0 ∨ ∃ i, i < k ∧ z.toNat.testBit i = true ∧ gzA a f z dd k (gcA a f dd i) = lg)
theorem mxA_p : ∀ m : Nat, (∀ k, k < m → z.toNat.testBit k = true → cnA a f z dd k 10 ≤ mxA a f z dd m) ∧ (mxA a f z dd m = 0 ∨ ∃ k, k < m ∧ z.toNat.testBit k = true ∧ cnA a f z dd k 10 = mxA a f z dd m) := by
  intro m
  induction m with
  | zero => exact ⟨fun k hk => by omega, Or.inl rfl⟩
  | succ m ih =>
    have mb := mxA_b (a := a) (f := f) (z := z) (dd := dd) m
    by_cases tb : z.toNat.testBit m = true
    · have e : mxA a f z dd (m + 1) = if cnA a f z dd m 10 ≤ mxA a f z dd m then mxA a f z dd m else cnA a f z dd m 10 := by
        simp only [mxA]; rw [if_pos tb]
      rw [e]
      by_cases q : cnA a f z dd m 10 ≤ mxA a f z dd m
      · rw [if_pos q]
        refine ⟨fun k hk tk => ?_, ?_⟩
        · by_cases c : k = m
          · rw [c]; exact q
          · exact ih.1 k (by omega) tk
        · rcases ih.2 with h | ⟨k, h1, h2⟩
          · exact Or.inl h
          · exact Or.inr ⟨k, by omega, h2⟩
      · rw [if_neg q]
        refine ⟨fun k hk tk => ?_, Or.inr ⟨m, by omega, tb, rfl⟩⟩
        by_cases c : k = m
        · rw [c]; exact Int.le_refl _
        · have := ih.1 k (by omega) tk; omega
    · have e : mxA a f z dd (m + 1) = mxA a f z dd m := by
        simp only [mxA]; rw [if_neg tb, if_pos mb.1]
      rw [e]
      refine ⟨fun k hk tk => ?_, ?_⟩
      · have : k ≠ m := fun c => tb (by rw [← c]; exact tk)
        exact ih.1 k (by omega) tk
      · rcases ih.2 with h | ⟨k, h1, h2⟩
        · exact Or.inl h
        · exact Or.inr ⟨k, by omega, h2⟩
theorem lg_mx (r : rok a f B) {lg : Int} (x : lgP a f z dd 10 lg) : lg = mxA a f z dd 10 := by
  obtain ⟨x1, x2, x3⟩ := x
  obtain ⟨m1, m2⟩ := mxA_p (a := a) (f := f) (z := z) (dd := dd) 10
  have mb := mxA_b (a := a) (f := f) (z := z) (dd := dd) 10
  have h1 : lg ≤ mxA a f z dd 10 := by
    rcases x3 with q | ⟨i, i1, i2, i3⟩
    · omega
    · rw [gz_cn r] at i3
      have := m1 i i1 i2
      omega
  have h2 : mxA a f z dd 10 ≤ lg := by
    rcases m2 with q | ⟨i, i1, i2, i3⟩
    · omega
    · have := x1 (gcA a f dd i)
      rw [gz_cn r] at this
      omega
  omega
theorem lg_no {k : Nat} {lg : Int} (x : lgP a f z dd k lg) (tb : ¬ z.toNat.testBit k = true) : lgP a f z dd (k + 1) lg := by
  have e : ∀ g, gzA a f z dd (k + 1) g = gzA a f z dd k g := by
    intro g
    unfold gzA
    rw [sumZ_succ, if_neg (fun q => tb q.1), Int.add_zero]
  obtain ⟨x1, x2, x3⟩ := x
  refine ⟨fun g => by rw [e]; exact x1 g, by omega, ?_⟩
  rcases x3 with q | ⟨i, i1, i2, i3⟩
  · exact Or.inl q
  · exact Or.inr ⟨i, by omega, i2, by rw [e]; exact i3⟩
theorem gz_yes {k : Nat} (tb : z.toNat.testBit k = true) : ∀ g, gzA a f z dd (k + 1) g = if g = gcA a f dd k then gzA a f z dd k g + 1 else gzA a f z dd k g := by
  intro g
  unfold gzA
  rw [sumZ_succ]
  by_cases q : g = gcA a f dd k
  · rw [if_pos q, if_pos ⟨tb, q.symm⟩]
  · rw [if_neg q, if_neg (fun w => q w.2.symm), Int.add_zero]
theorem lg_yes {k : Nat} {lg : Int} (x : lgP a f z dd k lg) (tb : z.toNat.testBit k = true) : lgP a f z dd (k + 1) (if lg < gzA a f z dd k (gcA a f dd k) + 1 then gzA a f z dd k (gcA a f dd k) + 1 else lg) := by
  have e := gz_yes (a := a) (f := f) (dd := dd) tb
  have b := gz_b (a := a) (f := f) (z := z) (dd := dd) k (gcA a f dd k)
  obtain ⟨x1, x2, x3⟩ := x
  have ek := e (gcA a f dd k)
  rw [if_pos rfl] at ek
  by_cases q : lg < gzA a f z dd k (gcA a f dd k) + 1
  · rw [if_pos q]
    refine ⟨fun g => ?_, by omega, Or.inr ⟨k, by omega, tb, ek⟩⟩
    rw [e]
    have := x1 g
    by_cases c : g = gcA a f dd k
    · rw [if_pos c, c]; exact Int.le_refl _
    · rw [if_neg c]; omega
  · rw [if_neg q]
    refine ⟨fun g => ?_, by omega, ?_⟩
    · rw [e]
      have := x1 g
      by_cases c : g = gcA a f dd k
      · rw [if_pos c, c]; omega
      · rw [if_neg c]; omega
    · rcases x3 with c | ⟨i, i1, i2, i3⟩
      · exact Or.inl c
      · refine Or.inr ⟨i, by omega, i2, ?_⟩
        have ei := e (gcA a f dd i)
        have hi := x1 (gcA a f dd i)
        by_cases c : gcA a f dd i = gcA a f dd k
        · rw [c] at i3; omega
        · rw [if_neg c] at ei; rw [ei]; exact i3
end SC0
section SC1
variable {scr : Nat × (Nat → Int)} {d : Nat} {h : am_H} {Q : Option am_V → am_H → Prop} {W : Wd} {ser : Nat} {a : Nat → Int} {B : Int} {num : Nat → Int} {n t1 : Nat}
theorem k_saidRefusal {t : Int} (hs : am_sc scr) (hw : wf h) (wo : wc h W) (x : plW h W 24 ser a) (ht : (0 ≤ t ∧ t ≤ 3) → h.2.2.2 (95 + 2 * t.toNat) 0 = 0 → trC h (95 + 2 * t.toNat) n num) (H : Q (some (.inl (if 0 ≤ t ∧ t ≤ 3 then (if h.2.2.2 (95 + 2 * t.toNat) 0 = 0 then rfH 0 (a 4) num n else -6) else -2))) h) : am_R (am_prog scr) (d + 1) f_S_saidRefusal 0 [some (.inr (.inr (((0) : Nat) : Int))), some (.inl (t)), none] [] h Q := by
  have hsc := (x.hs wo).1
  have x0 := x.2.2.1.1
  refine w_S_saidRefusal_0 hs hw ?_
  refine k_trayRefusal hs hw ⟨_, rfl, hw, fun c3 => ?_, fun c3 => ?_⟩
  · have c4 : 0 ≤ t ∧ t ≤ 3 := by
      apply Decidable.byContradiction; intro q; rw [if_neg q] at c3; omega
    rw [if_pos c4] at c3 H
    have c5 : h.2.2.2 (95 + 2 * t.toNat) 0 = 0 := by
      apply Decidable.byContradiction; intro q; rw [if_neg q] at c3; omega
    rw [if_pos c5] at H
    rw [x0, Int.toNat_natCast, hsc.2.2.2.2.2.1]
    refine ⟨by omega, ⟨by omega, by rw [Int.toNat_natCast]; exact hsc.2.1⟩, ?_⟩
    exact k_rowRefusal hs hw (TR_i c4) (ht c4 c5) ⟨_, rfl, hw, H⟩
  · by_cases c4 : 0 ≤ t ∧ t ≤ 3
    · rw [if_pos c4] at c3 H ⊢
      by_cases c5 : h.2.2.2 (95 + 2 * t.toNat) 0 = 0
      · rw [if_pos c5] at c3; omega
      · rw [if_neg c5] at H ⊢; exact H
    · rw [if_neg c4] at H ⊢; exact H
theorem k_hby_32 {x2 : Int} {hu : Nat} (hs : am_sc scr) (r : rok a (W.2.2.1 ser) B) (hB : B < 900000) (hh : hu ≤ 9) (ht : t1 ∈ TR) (hn : n ≤ 8) (h0 : ∀ i, i < n → 0 ≤ num i) (K : ∀ g i, wf g → fr SL [] h g → wc g W → (i = (n : Int) ∧ sdA a (W.2.2.1 ser) num n (hu : Int)) ∨ (i < (n : Int) ∧ ¬ sdA a (W.2.2.1 ser) num n (hu : Int)) → am_R (am_prog scr) (d + 4) f_S_hushesBy 81 [some (.inr (.inr (((0) : Nat) : Int))), some (.inr (.inr (((t1) : Nat) : Int))), some (.inl (x2)), some (.inl ((hu : Int))), some (.inl (i))] [] g Q) : ∀ (m k : Nat) (g : am_H) (b : Nat → Int), k + m = n → wf g → fr SL [] h g → wc g W → trC g t1 n num → plW g W 27 ser b → rok b (W.2.2.1 ser) (B + k) → simA (huA a (hu : Int)) b → stA b = seqA (huA a (hu : Int)) (W.2.2.1 ser) k → (∀ j, j < k → ¬ ovT a (seqA (huA a (hu : Int)) (W.2.2.1 ser) j) ∧ ¬ seqA (huA a (hu : Int)) (W.2.2.1 ser) (j + 1) % 2 = 1 ∧ lastI (seqA (huA a (hu : Int)) (W.2.2.1 ser) (j + 1)) = num j) → am_R (am_prog scr) (d + 4) f_S_hushesBy 32 [some (.inr (.inr (((0) : Nat) : Int))), some (.inr (.inr (((t1) : Nat) : Int))), some (.inl (x2)), some (.inl ((hu : Int))), some (.inl ((k : Int)))] [] g Q := by
  have p27 : 27 ∈ PL := by decide
  have t95 : 95 ≤ t1 := by
    have : ∀ t ∈ TR, 95 ≤ t := by decide
    exact this t1 ht
  have r0 := huA_ok r (n := (hu : Int)) (by omega)
  intro m
  induction m with
  | zero =>
    intro k g b hk wg fg wcg tc x rb sm es ok
    refine w_S_hushesBy_32 ht hs wg ?_
    rw [tc.2.1]
    exact ⟨fun _ => K g _ wg fg wcg (Or.inl ⟨by omega, fun j hj => ok j (by omega)⟩), fun c => by omega⟩
  | succ m ih =>
    intro k g b hk wg fg wcg tc x rb sm es ok
    have so := seq_ok r0 k
    have ob : ovA b ↔ ovT a (seqA (huA a (hu : Int)) (W.2.2.1 ser) k) := by
      rw [← es, ← ov_hu (m := (hu : Int)), ov_sim sm]
      exact rb.over.symm
    refine w_S_hushesBy_32 ht hs wg ?_
    rw [tc.2.1]
    refine ⟨fun c => by omega, fun _ => ?_⟩
    refine k_goesOnC hs wg p27 wcg x rb ⟨_, rfl, wg, fun c => ?_, fun c => ?_⟩
    · have ho : ovA b := by
        apply Decidable.byContradiction; intro q; rw [if_neg q] at c; omega
      exact K g _ wg fg wcg (Or.inr ⟨by omega, fun q => (q k (by omega)).1 (ob.mp ho)⟩)
    · have ho : ¬ ovA b := by
        intro q; rw [if_pos q] at c; omega
      have hov : ¬ ovT a (seqA (huA a (hu : Int)) (W.2.2.1 ser) k) := fun q => ho (ob.mpr q)
      have hov2 : ¬ ovT (huA a (hu : Int)) (seqA (huA a (hu : Int)) (W.2.2.1 ser) k) := fun q => hov (ov_hu.mp q)
      refine k_stepW hs wg p27 wcg x rb (by omega) ho (fun g2 w2 f2 wc2 x2 => ⟨_, rfl, w2, ?_⟩)
      have bt : btA b (W.2.2.1 ser) (-1) = seqA (huA a (hu : Int)) (W.2.2.1 ser) (k + 1) := by
        rw [btA_sim sm rb, es]
        simp only [seqA]
        rw [if_neg hov2]
        rfl
      have bp := btA_par rb ho (-1)
      rw [bt] at bp
      have gs := gbA_st rb ho (-1)
      rw [bt] at gs
      have f2' : fr SL [] g g2 := f2.mono (by decide) (by decide)
      have tc2 : trC g2 t1 n num := tc.fr f2 (by simp; omega) (by simp; omega)
      have n0 := h0 k (by omega)
      rw [Int.toNat_natCast, tc2.2.2 k (by omega)]
      refine ⟨by omega, fun c2 => K g2 _ w2 (fg.trans f2') wc2 (Or.inr ⟨by omega, fun q => ?_⟩), fun c2 y hy => ?_⟩
      · have := q k (by omega)
        omega
      · rw [am_w_id (by omega) (by omega)] at hy
        obtain rfl : y = ((k + 1 : Nat) : Int) := by omega
        refine ih (k + 1) g2 _ (by omega) w2 (fg.trans f2') wc2 tc2 x2 ((gbA_ok rb ho (-1)).le (by omega)) (sm.trans gbA_sim) gs (fun j hj => ?_)
        by_cases q : j = k
        · rw [q]; exact ⟨hov, by omega, by omega⟩
        · exact ok j (by omega)
theorem k_hushesBy (hs : am_sc scr) (hw : wf h) (wo : wc h W) (x : plW h W 24 ser a) (r : rok a (W.2.2.1 ser) B) (hB : B < 900000) (ht : t1 ∈ TR) (tc : trC h t1 n num) (hn : n ≤ 8) (h0 : ∀ i, i < n → 0 ≤ num i) (H : ∀ g z, wf g → fr SL [] h g → wc g W → isBits z 10 (fun k => sdA a (W.2.2.1 ser) num n (k : Int)) → Q (some (.inl (z))) g) : am_R (am_prog scr) (d + 4) f_S_hushesBy 0 [some (.inr (.inr (((0) : Nat) : Int))), some (.inr (.inr (((t1) : Nat) : Int))), none, none, none] [] h Q := by
  have p24 : 24 ∈ PL := by decide
  have p27 : 27 ∈ PL := by decide
  have t95 : 95 ≤ t1 := by
    have : ∀ t ∈ TR, 95 ≤ t := by decide
    exact this t1 ht
  have tfr : ∀ g, fr SL [] h g → trC g t1 n num := fun g fg => tc.fr fg (fun q hq => Or.inl (by have := SL95 q hq; omega)) (by simp)
  have lp : ∀ (m k : Nat) (z : Int) (g : am_H), k + m = 10 → wf g → fr SL [] h g → wc g W → isBits z 10 (fun i => i < k ∧ sdA a (W.2.2.1 ser) num n (i : Int)) → am_R (am_prog scr) (d + 4) f_S_hushesBy 4 [some (.inr (.inr (((0) : Nat) : Int))), some (.inr (.inr (((t1) : Nat) : Int))), some (.inl (z)), some (.inl ((k : Int))), none] [] g Q := by
    intro m
    induction m with
    | zero =>
      intro k z g hk wg fg wcg hz
      exact w_S_hushesBy_4 ht hs wg ⟨fun _ => H g z wg fg wcg (hz.same (fun s hs2 => ⟨fun q => ⟨by omega, q⟩, fun q => q.2⟩)), fun c => by omega⟩
    | succ m ih =>
      intro k z g hk wg fg wcg hz
      have x24 : plW g W 24 ser a := x.fr fg (by decide) (by simp)
      refine w_S_hushesBy_4 ht hs wg ⟨fun c => by omega, fun _ => ?_⟩
      refine k_takeFrom hs wg p27 p24 (by decide) x24 r (fun g2 w2 f2 x2 y2 => ⟨rfl, w2, fun h2 e2 => ?_⟩)
      have hx := plW.hush (n := (k : Int)) w2 p27 x2
      rw [← e2] at hx
      have f3 : fr SL [] g h2 := by rw [e2]; exact (f2.mono (by decide) (by simp)).put (Or.inl (by decide))
      have fh : fr SL [] g2 h2 := by rw [e2]; exact fr.rfl.put (Or.inl (by decide))
      have fq : fr [] [(27, 3)] g2 h2 := by rw [e2]; exact fr.rfl.put (Or.inr (by decide))
      have wc3 : wc h2 W := (wcg.fr f2 (by decide) (by simp)).fr fq (by simp) (by decide)
      refine k_hby_32 (h := h) (B := B) (hu := k) hs r hB (by omega) ht hn h0 (fun g3 i w3 f4 wc4 hi => ?_) n 0 h2 _ (by omega) hx.1 (fg.trans f3) wc3 (tfr h2 (fg.trans f3)) hx.2 ((huA_ok r (by omega)).le (by omega)) simA.rfl rfl (fun j hj => by omega)
      refine w_S_hushesBy_81 ht hs w3 ?_
      rw [(tfr g3 f4).2.1]
      refine ⟨fun c y hy => ?_, fun c y hy y3 h3 => ?_⟩
      · rw [am_w_id (by omega) (by omega)] at hy
        obtain rfl : y = ((k + 1 : Nat) : Int) := by omega
        refine ih (k + 1) z g3 (by omega) w3 f4 wc4 (hz.same (fun s hs2 => ⟨fun q => ⟨?_, q.2⟩, fun q => ⟨by omega, q.2⟩⟩))
        have : s ≠ k := fun e => by
          rcases hi with q2 | q2
          · omega
          · rw [e] at q; exact q2.2 q.2
        omega
      · rw [am_w_id (by omega) (by omega)] at h3
        obtain rfl : y3 = ((k + 1 : Nat) : Int) := by omega
        subst hy
        have sk : sdA a (W.2.2.1 ser) num n (k : Int) := by
          rcases hi with q2 | q2
          · exact q2.2
          · omega
        refine ih (k + 1) _ g3 (by omega) w3 f4 wc4 (hz.or (by omega) (by omega) (fun s hs2 => ⟨fun q => ?_, fun q => ?_⟩))
        · by_cases e : s = k
          · exact Or.inr (by omega)
          · exact Or.inl ⟨by omega, q.2⟩
        · rcases q with q | q
          · exact ⟨by omega, q.2⟩
          · exact ⟨by omega, by rw [q]; exact sk⟩
  exact w_S_hushesBy_0 ht hs hw (lp 10 0 0 h rfl hw fr.rfl wo (isBits.zero (fun s _ => fun q => by omega)))
def SGL : List Nat := [10, 11, 12, 13, 14, 15, 20, 27, 28, 29]
theorem k_largest {dd z : Int} (hs : am_sc scr) (hw : wf h) (wo : wc h W) (x : plW h W 24 ser a) (r : rok a (W.2.2.1 ser) B) (hB : B < 900000) (hd : 0 ≤ dd ∧ dd ≤ a 4) (hz : 0 ≤ z ∧ z < 1024) (H : ∀ g, wf g → fr SGL [] h g → wc g W → Q (some (.inl (mxA a (W.2.2.1 ser) z dd 10))) g) : am_R (am_prog scr) (d + 4) f_S_largestGroup 0 [some (.inr (.inr (((0) : Nat) : Int))), some (.inl (z)), some (.inl (dd)), none, none, none, none] [] h Q := by
  have h4 := r.1.1
  have p24 : 24 ∈ PL := by decide
  have p27 : 27 ∈ PL := by decide
  refine w_S_largestGroup_0 hs hw ?_
  refine k_fillI (n := 37) hs hw (by decide) (by decide +kernel) (by omega) (by decide +kernel) (fun g0 w0 f0 e0 => ⟨rfl, w0, ?_⟩)
  have lp : ∀ (m k : Nat) (lg : Int) (g : am_H), k + m = 10 → wf g → fr SGL [] h g → wc g W → (∀ q : Nat, q < 37 → g.2.2.2 20 q = gzA a (W.2.2.1 ser) z dd k (q : Int)) → lgP a (W.2.2.1 ser) z dd k lg → am_R (am_prog scr) (d + 4) f_S_largestGroup 13 [some (.inr (.inr (((0) : Nat) : Int))), some (.inl (z)), some (.inl (dd)), some (.inl (lg)), some (.inl ((k : Int))), none, none] [] g Q := by
    intro m
    induction m with
    | zero =>
      intro k lg g hk wg fg wcg sz lp
      obtain rfl : k = 10 := by omega
      rw [lg_mx r lp]
      exact w_S_largestGroup_13 hs wg ⟨fun _ => H g wg fg wcg, fun c => by omega⟩
    | succ m ih =>
      intro k lg g hk wg fg wcg sz lp
      have x24 : plW g W 24 ser a := x.fr fg (by decide) (by simp)
      refine w_S_largestGroup_13 hs wg ⟨fun c => by omega, fun _ => ?_⟩
      rw [bit32 (by omega) (by omega), Int.toNat_natCast]
      refine ⟨fun c y hy => ?_, fun c => ?_⟩
      · have tb : ¬ z.toNat.testBit k = true := by
          intro q; rw [if_pos q] at c; omega
        rw [am_w_id (by omega) (by omega)] at hy
        obtain rfl : y = ((k + 1 : Nat) : Int) := by omega
        refine ih (k + 1) lg g (by omega) wg fg wcg (fun q hq => ?_) (lg_no lp tb)
        rw [sz q hq]
        unfold gzA
        rw [sumZ_succ, if_neg (fun w => tb w.1), Int.add_zero]
      · have tb : z.toNat.testBit k = true := by
          apply Decidable.byContradiction; intro q; rw [if_neg q] at c; omega
        have gb := gcA_b (dd := dd) r k
        have zb := gz_b (a := a) (f := W.2.2.1 ser) (z := z) (dd := dd) k (gcA a (W.2.2.1 ser) dd k)
        -- one more in its group
        have add : ∀ (g4 : am_H), wf g4 → fr SGL [] h g4 → wc g4 W → g4.2.2.2 20 = g.2.2.2 20 → ∀ (c0 : Nat), (c0 : Int) = gcA a (W.2.2.1 ser) dd k → ∀ h9 : am_H, h9 = am_put g4 20 c0 (am_w (g4.2.2.2 20 c0 + 1)) → am_R (am_prog scr) (d + 3) f_jM_max 0 [some (.inl (lg)), some (.inl (h9.2.2.2 20 c0))] [] h9 (fun v g11 => ∃ r12 : Int, v = some (.inl (r12)) ∧ wf g11 ∧ (∀ y13 : Int, y13 = am_w ((k : Int) + 1) → (am_R (am_prog scr) (d + 4) f_S_largestGroup 13 [some (.inr (.inr (((0) : Nat) : Int))), some (.inl (z)), some (.inl (dd)), some (.inl (r12)), some (.inl (y13)), none, none] [] g11 Q))) := by
          intro g4 w4 f4 wc4 e20 c0 hc h9 e9
          rw [e20, sz c0 (by omega), hc, am_w_id (by omega) (by omega)] at e9
          have e9c : h9.2.2.2 20 c0 = gzA a (W.2.2.1 ser) z dd k (gcA a (W.2.2.1 ser) dd k) + 1 := by rw [e9]; exact put_eq
          have w9 : wf h9 := by rw [e9]; exact w4.pa (by decide +kernel)
          have f9 : fr SGL [] h h9 := by rw [e9]; exact f4.put (Or.inl (by decide))
          have fq : fr [20] [] g4 h9 := by rw [e9]; exact fr.rfl.put (Or.inl (by decide))
          have wc9 : wc h9 W := wc4.fr fq (by decide) (by simp)
          have ly := lg_yes lp tb
          have sz9 : ∀ q : Nat, q < 37 → h9.2.2.2 20 q = gzA a (W.2.2.1 ser) z dd (k + 1) (q : Int) := by
            intro q hq
            rw [gz_yes tb, e9]
            simp only [put_at, true_and]
            by_cases c : q = c0
            · rw [if_pos c, if_pos (by omega), c, hc]
            · rw [if_neg c, if_neg (by omega), e20]; exact sz q hq
          rw [e9c]
          refine w_jM_max_0 hs w9 ⟨fun c => ⟨_, rfl, w9, fun y hy => ?_⟩, fun c => ⟨_, rfl, w9, fun y hy => ?_⟩⟩
          · rw [am_w_id (by omega) (by omega)] at hy
            obtain rfl : y = ((k + 1 : Nat) : Int) := by omega
            rw [if_pos c] at ly
            exact ih (k + 1) _ h9 (by omega) w9 f9 wc9 sz9 ly
          · rw [am_w_id (by omega) (by omega)] at hy
            obtain rfl : y = ((k + 1 : Nat) : Int) := by omega
            rw [if_neg c] at ly
            exact ih (k + 1) _ h9 (by omega) w9 f9 wc9 sz9 ly
        refine k_takeFrom hs wg p27 p24 (by decide) x24 r (fun g2 w2 f2 x2 y2 => ⟨rfl, w2, fun h2 e2 => ?_⟩)
        have hx := plW.hush (n := (k : Int)) w2 p27 x2
        rw [← e2] at hx
        have f3 : fr SGL [] g h2 := by rw [e2]; exact (f2.mono (by decide) (by simp)).put (Or.inl (by decide))
        have fq : fr [] [(27, 3)] g2 h2 := by rw [e2]; exact fr.rfl.put (Or.inr (by decide))
        have wc3 : wc h2 W := (wcg.fr f2 (by decide) (by simp)).fr fq (by simp) (by decide)
        have r0 := huA_ok r (n := (k : Int)) (by omega)
        have e20 : h2.2.2.2 20 = g.2.2.2 20 := by rw [fq.c 20 (by simp) (by decide), f2.c 20 (by decide) (by simp)]
        have ovi : ovA (huA a (k : Int)) ↔ ovA a := by
          show (huA a (k : Int) 14 = huA a (k : Int) 3 ∨ huA a (k : Int) 15 = 1) ↔ _
          rw [huA_e (by omega), huA_e (by omega), huA_e (by omega)]
        refine k_goesOnC hs hx.1 p27 wc3 hx.2 r0 ⟨_, rfl, hx.1, fun c1 => ⟨fun c2 => absurd rfl c2, fun _ => ?_⟩, fun c1 => ?_⟩
        · have ho : ovA a := by
            apply Decidable.byContradiction; intro q; rw [if_neg (fun w => q (ovi.mp w))] at c1; omega
          intro h14 e14
          exact add h2 hx.1 (fg.trans f3) wc3 e20 36 (by unfold gcA; rw [if_pos ho]; rfl) h14 e14
        · have ho : ¬ ovA a := by
            intro q; rw [if_pos (ovi.mpr q)] at c1; exact c1 rfl
          have ho2 : ¬ ovA (huA a (k : Int)) := fun w => ho (ovi.mp w)
          rw [am_w_id (x := dd - 1) (by omega) (by omega)]
          refine k_stepW hs hx.1 p27 wc3 hx.2 r0 (by omega) ho2 (fun g5 w5 f5 wc5 x5 => ⟨_, rfl, w5, ?_⟩)
          have bt : btA (huA a (k : Int)) (W.2.2.1 ser) (dd - 1) = beatS a (W.2.2.1 ser) (k : Int) (stA a) (dd - 1) := by
            unfold btA
            have e : huA a (k : Int) 28 = (k : Int) := if_pos rfl
            rw [e, huA_st, beatS_hu r.1 r.st.1.1]
          have bp := btA_par r0 ho2 (dd - 1)
          rw [bt] at bp
          have gs := gbA_st r0 ho2 (dd - 1)
          rw [bt] at gs
          have f5' : fr SGL [] h2 g5 := f5.mono (by decide) (by decide)
          have e20' : g5.2.2.2 20 = g.2.2.2 20 := by rw [f5.c 20 (by decide) (by decide)]; exact e20
          have e5 : g5.2.2.2 27 5 = soundI (beatS a (W.2.2.1 ser) (k : Int) (stA a) (dd - 1)) := by rw [x5.2.2.1.2.2.2.2.1, gs]
          have so := (beatS_ok r.1 r.ok (hu := (k : Int)) (wk := dd - 1) (fun z => ho (r.over.mp z))).1
          have l1 := lastI_b so.1
          have l2 := soundI_b so.1
          refine ⟨fun c2 y21 h21 => ?_, fun c2 h29 e29 => ?_⟩
          · rw [e5, am_w_id (x := soundI _ * 6) (by omega) (by omega), am_w_id (by omega) (by omega)] at h21
            have hg : ((y21.toNat : Nat) : Int) = gcA a (W.2.2.1 ser) dd k := by
              unfold gcA
              rw [if_neg ho, if_neg (by omega)]
              omega
            exact ⟨by omega, by omega, fun h24 e24 => ⟨by omega, add g5 w5 ((fg.trans f3).trans f5') wc5 e20' y21.toNat hg h24 e24⟩⟩
          · refine add g5 w5 ((fg.trans f3).trans f5') wc5 e20' 36 ?_ h29 e29
            unfold gcA
            rw [if_neg ho, if_pos (by omega)]; rfl
  refine lp 10 0 0 g0 rfl w0 (f0.mono (by decide) (by simp)) (wo.fr f0 (by decide) (by simp)) (fun q hq => ?_) ⟨fun g => by simp [gzA, sumZ], by omega, Or.inl rfl⟩
  rw [e0 q, if_pos hq]
  simp [gzA, sumZ]
theorem k_Shushes {t : Int} (hs : am_sc scr) (hw : wf h) (wo : wc h W) (x : plW h W 24 ser a) (r : rok a (W.2.2.1 ser) B) (hB : B < 900000) (ht : (0 ≤ t ∧ t ≤ 3) → h.2.2.2 (95 + 2 * t.toNat) 0 = 0 → trC h (95 + 2 * t.toNat) n num) (H : ∀ g z, wf g → fr SGL [] h g → wc g W → ((0 ≤ t ∧ t ≤ 3) → (¬ h.2.2.2 (95 + 2 * t.toNat) 0 = 0 → z = -6) ∧ (h.2.2.2 (95 + 2 * t.toNat) 0 = 0 → hsA a (W.2.2.1 ser) num n z)) → (¬ (0 ≤ t ∧ t ≤ 3) → z = -2) → Q (some (.inl (z))) g) : am_R (am_prog scr) (d + 5) f_S_hushes 0 [some (.inr (.inr (((0) : Nat) : Int))), some (.inl (t)), none] [] h Q := by
  refine w_S_hushes_0 hs hw ?_
  refine k_saidRefusal (n := n) (num := num) hs hw wo x ht ⟨_, rfl, hw, fun c => ?_, fun c => ?_⟩
  · have c4 : 0 ≤ t ∧ t ≤ 3 := by
      apply Decidable.byContradiction; intro q; rw [if_neg q] at c; omega
    rw [if_pos c4] at c
    have c5 : h.2.2.2 (95 + 2 * t.toNat) 0 = 0 := by
      apply Decidable.byContradiction; intro q; rw [if_neg q] at c; omega
    rw [if_pos c5] at c
    have nb : 1 ≤ n ∧ n ≤ 8 := by
      apply Decidable.byContradiction; intro q; unfold rfH at c; rw [if_neg q] at c; omega
    have n0 : ∀ i, i < n → 0 ≤ num i := by
      have q : rgB 0 (a 4) num n = true := by
        apply Decidable.byContradiction; intro q; unfold rfH at c; rw [if_pos nb, if_neg q] at c; omega
      exact fun i hi => (rgB_t.mp q i hi).1
    refine ⟨by omega, k_hushesBy hs hw wo x r hB (TR_i c4) (ht c4 c5) nb.2 n0 (fun g z wg fg wcg hz => ⟨_, rfl, wg, ?_⟩)⟩
    exact H g z wg (fg.mono (by decide) (by simp)) wcg (fun _ => ⟨fun q => absurd c5 q, fun _ => ⟨fun q => absurd c q, fun _ => hz⟩⟩) (fun q => absurd c4 q)
  · refine H h _ hw fr.rfl wo (fun c4 => ?_) (fun c4 => by rw [if_neg c4])
    rw [if_pos c4] at c ⊢
    refine ⟨fun c5 => by rw [if_neg c5], fun c5 => ?_⟩
    rw [if_pos c5] at c ⊢
    exact ⟨fun _ => rfl, fun q => absurd q c⟩
theorem k_Sattempt {t : Int} (hs : am_sc scr) (hw : wf h) (wo : wc h W) (x : plW h W 24 ser a) (r : rok a (W.2.2.1 ser) B) (hB : B < 900000) (ht : (0 ≤ t ∧ t ≤ 3) → h.2.2.2 (95 + 2 * t.toNat) 0 = 0 → trC h (95 + 2 * t.toNat) n num) (H : ∀ g z, wf g → fr SGL [] h g → wc g W → ((0 ≤ t ∧ t ≤ 3) → (¬ h.2.2.2 (95 + 2 * t.toNat) 0 = 0 → z = -6) ∧ (h.2.2.2 (95 + 2 * t.toNat) 0 = 0 → atP a (W.2.2.1 ser) num n z)) → (¬ (0 ≤ t ∧ t ≤ 3) → z = -2) → Q (some (.inl (z))) g) : am_R (am_prog scr) (d + 5) f_S_attempt 0 [some (.inr (.inr (((0) : Nat) : Int))), some (.inl (t)), none, none, none, none, none, none] [] h Q := by
  have h4 := r.1.1
  refine w_S_attempt_0 hs hw ?_
  refine k_saidRefusal (n := n) (num := num) hs hw wo x ht ⟨_, rfl, hw, fun c => ?_, fun c => ?_⟩
  · have c4 : 0 ≤ t ∧ t ≤ 3 := by
      apply Decidable.byContradiction; intro q; rw [if_neg q] at c; omega
    rw [if_pos c4] at c ⊢
    have c5 : h.2.2.2 (95 + 2 * t.toNat) 0 = 0 := by
      apply Decidable.byContradiction; intro q; rw [if_neg q] at c; omega
    rw [if_pos c5] at c ⊢
    rw [c]
    have nb : 1 ≤ n ∧ n ≤ 8 := by
      apply Decidable.byContradiction; intro q; unfold rfH at c; rw [if_neg q] at c; omega
    have n0 : ∀ i, i < n → 0 ≤ num i := by
      have q : rgB 0 (a 4) num n = true := by
        apply Decidable.byContradiction; intro q; unfold rfH at c; rw [if_pos nb, if_neg q] at c; omega
      exact fun i hi => (rgB_t.mp q i hi).1
    refine ⟨by omega, k_hushesBy hs hw wo x r hB (TR_i c4) (ht c4 c5) nb.2 n0 (fun g z wg fg wcg hz => ⟨_, rfl, wg, ?_⟩)⟩
    have z2 := hz.2.1
    have z1 := hz.1
    have z3 : ((2 ^ 10 : Nat) : Int) = 1024 := by decide
    have HH : ∀ g w, wf g → fr SGL [] h g → wc g W → (w = if z = 0 then -1 else (atA a (W.2.2.1 ser) z (a 4 + 1).toNat).1) → Q (some (.inl (w))) g := by
      intro g w wg fg wcg hw2
      exact H g w wg fg wcg (fun _ => ⟨fun q => absurd c5 q, fun _ => ⟨fun q => absurd c q, fun _ => ⟨z, hz, hw2⟩⟩⟩) (fun q => absurd c4 q)
    refine ⟨fun e => ?_, fun e => HH g _ wg (fg.mono (by decide) (by simp)) wcg (by rw [if_pos e])⟩
    have xg : plW g W 24 ser a := x.fr fg (by decide) (by simp)
    refine k_largest hs wg wcg xg r hB (by omega) (by omega) (fun g2 w2 f2 wc2 => ⟨_, rfl, w2, ?_⟩)
    have lp : ∀ (m k : Nat) (g : am_H), (k : Int) + m = a 4 + 1 → wf g → fr SGL [] h g → wc g W → am_R (am_prog scr) (d + 5) f_S_attempt 43 [some (.inr (.inr (((0) : Nat) : Int))), some (.inl (t)), some (.inl (0)), some (.inl (z)), some (.inl ((atA a (W.2.2.1 ser) z k).1)), some (.inl ((atA a (W.2.2.1 ser) z k).2)), some (.inl ((k : Int))), none] [] g Q := by
      intro m
      induction m with
      | zero =>
        intro k g hk wg fg wcg
        have xg : plW g W 24 ser a := x.fr fg (by decide) (by simp)
        have hsc := (xg.hs wcg).1
        refine w_S_attempt_43 hs wg ?_
        rw [xg.2.2.1.1, Int.toNat_natCast, hsc.2.2.2.2.2.1]
        exact ⟨⟨by omega, by rw [Int.toNat_natCast]; exact hsc.2.1⟩, fun _ => HH g _ wg fg wcg (by rw [if_neg e, show (a 4 + 1).toNat = k by omega]), fun c => by omega⟩
      | succ m ih =>
        intro k g hk wg fg wcg
        have xg : plW g W 24 ser a := x.fr fg (by decide) (by simp)
        have hsc := (xg.hs wcg).1
        refine w_S_attempt_43 hs wg ?_
        rw [xg.2.2.1.1, Int.toNat_natCast, hsc.2.2.2.2.2.1]
        refine ⟨⟨by omega, by rw [Int.toNat_natCast]; exact hsc.2.1⟩, fun c => by omega, fun _ => ?_⟩
        refine k_largest hs wg wcg xg r hB (by omega) (by omega) (fun g2 w2 f2 wc2 => ⟨_, rfl, w2, fun c5 y hy => ?_, fun c5 y hy => ?_⟩)
        · rw [am_w_id (by omega) (by omega)] at hy
          obtain rfl : y = ((k + 1 : Nat) : Int) := by omega
          have nxt := ih (k + 1) g2 (by omega) w2 (fg.trans f2) wc2
          simp only [atA] at nxt
          rw [if_neg c5] at nxt
          exact nxt
        · rw [am_w_id (by omega) (by omega)] at hy
          obtain rfl : y = ((k + 1 : Nat) : Int) := by omega
          have nxt := ih (k + 1) g2 (by omega) w2 (fg.trans f2) wc2
          simp only [atA] at nxt
          rw [if_pos c5] at nxt
          exact nxt
    have one := lp (a 4).toNat 1 g2 (by omega) w2 ((fg.mono (by decide) (by simp)).trans f2) wc2
    have mb := mxA_b (a := a) (f := W.2.2.1 ser) (z := z) (dd := ((0 : Nat) : Int)) 10
    have e1 : atA a (W.2.2.1 ser) z 1 = (((0 : Nat) : Int), mxA a (W.2.2.1 ser) z ((0 : Nat) : Int) 10) := by
      show (if mxA a (W.2.2.1 ser) z ((0 : Nat) : Int) 10 < (268435456 : Int) then (((0 : Nat) : Int), mxA a (W.2.2.1 ser) z ((0 : Nat) : Int) 10) else ((-1 : Int), (268435456 : Int))) = _
      rw [if_pos (by omega)]
    rw [e1] at one
    exact one
  · refine H h _ hw fr.rfl wo (fun c4 => ?_) (fun c4 => by rw [if_neg c4])
    rw [if_pos c4] at c ⊢
    refine ⟨fun c5 => by rw [if_neg c5], fun c5 => ?_⟩
    rw [if_pos c5] at c ⊢
    exact ⟨fun _ => rfl, fun q => absurd q c⟩
end SC1
