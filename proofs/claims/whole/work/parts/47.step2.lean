/-! tones, a beat of the class -/
theorem xor_neg {x y : Int} (hx : am_w x = x) (hy : am_w y = y) : am_xor x y < 0 ↔ ¬ (x < 0 ↔ y < 0) := by
  have h1 : (Int32.ofInt x).toBitVec.msb = decide (x < 0) := by rw [BitVec.msb_eq_toInt]; show decide ((Int32.ofInt x).toInt < 0) = _; rw [am_ti, hx]
  have h2 : (Int32.ofInt y).toBitVec.msb = decide (y < 0) := by rw [BitVec.msb_eq_toInt]; show decide ((Int32.ofInt y).toInt < 0) = _; rw [am_ti, hy]
  have h3 : decide (am_xor x y < 0) = (decide (x < 0) ^^ decide (y < 0)) := by
    rw [← h1, ← h2, ← BitVec.msb_xor, BitVec.msb_eq_toInt]
    rfl
  by_cases q1 : x < 0 <;> by_cases q2 : y < 0 <;> simp [q1, q2] at h3 ⊢ <;> omega
section STQ
variable {scr : Nat × (Nat → Int)} {d : Nat} {h : am_H} {Q : Option am_V → am_H → Prop} {a : Nat → Int} {f : Nat → (Nat → Int) → Int} {LW : Nat → Nat → (Nat → Int) → Int} {K hid p : Nat} {hu st : Int}
theorem tmod_cmp {x y : Int} (hy : 1 ≤ y) : (0 ≤ x → x.tmod y = x % y) ∧ (x < 0 → (x.tmod y = 0 → x % y = 0) ∧ (¬ x.tmod y = 0 → x % y = x.tmod y + y ∧ -y < x.tmod y ∧ x.tmod y < 0)) := by
  refine ⟨fun q => tm q, fun q => ?_⟩
  have e7 := Int.mul_tdiv_add_tmod x y
  have e6 : (x.tmod y) % y = x % y := by
    have e8 := Int.add_mul_emod_self_left (x.tmod y) y (x.tdiv y)
    rw [Int.add_comm, e7] at e8
    exact e8.symm
  have e4 : (-x).tmod y = -(x.tmod y) := Int.neg_tmod ..
  have e5 : (-x).tmod y = (-x) % y := tm (by omega)
  have h4 := Int.emod_nonneg (-x) (b := y) (by omega)
  have h5 := Int.emod_lt_of_pos (-x) (b := y) (by omega)
  refine ⟨fun c => by rw [← e6, c]; simp, fun c => ⟨?_, by omega, by omega⟩⟩
  rw [← e6, ← Int.add_emod_right, Int.emod_eq_of_lt (by omega) (by omega)]
theorem k_floorMod {x y : Int} (hs : am_sc scr) (hw : wf h) (hx : am_w x = x) (hy : 1 ≤ y ∧ y < 2147483648) (H : Q (some (.inl (x % y))) h) : am_R (am_prog scr) d f_jM_floorMod 0 [some (.inl (x)), some (.inl (y)), none] [] h Q := by
  have hc := tmod_cmp (x := x) hy.1
  have hn := xor_neg hx (am_w_id (x := y) (by omega) (by omega))
  refine w_jM_floorMod_0 hs hw ⟨by omega, fun z hz => ⟨fun c => ?_, fun c => ⟨fun c2 => ?_, fun c2 => ?_⟩⟩⟩
  · rw [hz, hc.1 (by omega)]; exact H
  · rw [(hc.2 (by omega)).1 (by rw [← hz]; exact c2)] at H
    rw [c2]; exact H
  · have := (hc.2 (by omega)).2 (by rw [← hz]; exact c2)
    rw [← hz] at this
    rw [am_w_id (by omega) (by omega), ← this.1]
    exact H
theorem k_rest {x y : Int} (hs : am_sc scr) (hw : wf h) (hx : am_w x = x) (hy : 1 ≤ y ∧ y < 2147483648) (H : Q (some (.inl (x % y))) h) : am_R (am_prog scr) (d + 1) f_S_rest 0 [some (.inl (x)), some (.inl (y))] [] h Q := by
  refine w_S_rest_0 hs hw ⟨fun c => ?_, fun c => by omega⟩
  exact k_floorMod hs hw hx hy ⟨_, rfl, hw, H⟩
theorem k_tone {s : Int} (hs : am_sc scr) (hw : wf h) (hpl : p ∈ PL) (ok : wok a f) (hh : hsC h hid a f) (hp : plC h p hid a hu st) (hl : lwS LW K (h.2.2.2 hid 0) a f) (hK : K ≤ 600) (hc : caC h LW K) (h3 : 0 ≤ hu ∧ hu < 10) (h2 : 0 ≤ st ∧ st < 360) (h1 : 0 ≤ s ∧ s < a 4) (H : ∀ g, wf g → fr [12, 13, 14, 15] [] h g → caC g LW K → Q (some (.inl (toneS a f hu st s))) g) : am_R (am_prog scr) (d + 2) f_Stage_tone 0 [some (.inr (.inr ((9 : Nat) : Int))), some (.inr (.inr (((p) : Nat) : Int))), some (.inl (s)), none, none, none] [] h Q := by
  have n4 := ok.1
  have s2 := ok.2.1
  have h6 : 0 ≤ s ∧ s < 6 := by omega
  have o := hs_o hh hp
  have rg := pl_rg hpl
  have sb := slot_b ok h6 h2
  have fb := ok.far h6 (lastI_b h2.1)
  have hr := hh.2.2.2.2.2.2.2.2.2
  have es : h.2.2.2 hid 2 = a 2 := hh.2.2.2.1
  refine w_Stage_tone_0 hpl hs hw ⟨o.1, ?_⟩
  rw [o.2]
  refine ⟨?_, fun c => ?_, fun c => ?_⟩
  · rcases hr with q | ⟨q, l, n, e1, -⟩
    · omega
    · omega
  · rcases hr with q | ⟨q, l, n, e1, e2, e3, e4⟩
    · exact absurd q.2 c
    · refine k_far hs hw hpl ok hp h6 h2 (by omega) ⟨_, rfl, hw, ?_⟩
      refine k_slot hs hw hpl ok hp h6 h2 (by omega) rfl ⟨_, rfl, hw, ?_⟩
      have sr := hl.2.2 q
      have sK := hl.1
      have et : toneS a f hu st s = f 1 (envS a hu st s) % a 2 := by unfold toneS; rw [if_pos q]
      refine k_mark hs hw hpl ok hh hp (by omega) h3 h6 ⟨_, rfl, hw, sb, fun c2 => ⟨sb, ?_⟩, fun c2 => ?_⟩
      · have db := ok.drm h6
        have md := mark_d (x := h.2.2.2 hid 0) db h3
        rcases (hc (slotI a st s).toNat (by omega)).2 with c3 | ⟨c3, c4, c5⟩
        · omega
        · rw [c2, md.1, md.2.1, md.2.2, sr.2, slot_env ok h6 h2] at c5
          rw [c5.trans et.symm]
          exact H h hw fr.rfl hc
      · refine k_setValues hs hw hpl hp h6 (by omega) rfl (fun g wg fg hv => ⟨rfl, wg, ?_⟩)
        have hpg := hp.fr fg (by simp; omega) (by simp)
        obtain ⟨hhg, eg⟩ := hh.fr fg (by simp) (by simp)
        have og := hs_o hhg hpg
        refine ⟨og.1, ?_⟩
        rw [og.2, eg, e1]
        have el : g.2.2.2 l = h.2.2.2 l := fg.c l (by simp; omega) (by simp)
        refine k_tell hs wg (env := envS a hu st s) (F := f 1) (n := n) (by omega) (by rw [fg.2.2.1]; exact e3) (by rw [el]; exact e4) (ok.env h6 h2 h3) hv (fun g2 w2 f2 => ⟨_, rfl, w2, ?_⟩)
        have hp2 := hpg.fr f2 (by simp; omega) (by simp)
        obtain ⟨hh2, eg2⟩ := hhg.fr f2 (by simp) (by simp)
        have o2 := hs_o hh2 hp2
        refine ⟨o2.1, ?_⟩
        rw [o2.2, eg2, eg, es]
        have vb : wb (f 1 (envS a hu st s)) := (e4.2 _ (ok.env h6 h2 h3)).1
        unfold wb at vb
        refine k_rest hs w2 (am_w_id (by omega) (by omega)) (by omega) ⟨_, rfl, w2, sb, fun g3 q3 => ⟨sb, fun g4 q4 => ⟨sb, ?_⟩⟩⟩
        rw [← et] at q3
        have f3 : fr [12, 13, 14, 15] [] h g4 := by
          rw [q4, q3]
          refine fr.put (fr.put ((fg.mono (by decide) (by simp)).trans (f2.mono (by decide) (by simp))) ?_) ?_ <;> exact Or.inl (by decide)
        have w4 : wf g4 := by rw [q4, q3]; exact (w2.pa (by decide +kernel)).pa (by decide +kernel)
        have c0 : caC g2 LW K := (hc.fr fg (by simp) (by simp)).fr f2 (by simp) (by simp)
        have db := ok.drm h6
        have md := mark_d (x := h.2.2.2 hid 0) db h3
        have c4 : caC g4 LW K := by
          intro sl hsl
          have c1 := c0 sl hsl
          have e10 : g4.2.2.2 12 sl = if sl = (slotI a st s).toNat then toneS a f hu st s else g2.2.2.2 12 sl := by rw [q4, put_c (by decide), q3]; simp only [put_at, true_and]
          have e11 : g4.2.2.2 13 sl = if sl = (slotI a st s).toNat then 100 * h.2.2.2 hid 0 + 10 * a (22 + s).toNat + hu else g2.2.2.2 13 sl := by rw [q4, q3]; simp only [put_at, true_and]; split <;> simp [*]
          have e12 : g4.2.2.2 10 = g2.2.2.2 10 := by rw [q4, put_c (by decide), q3, put_c (by decide)]
          have e13 : g4.2.2.2 11 = g2.2.2.2 11 := by rw [q4, put_c (by decide), q3, put_c (by decide)]
          rw [e10, e11, e12, e13]
          refine ⟨c1.1, ?_⟩
          split
          · rename_i q5
            refine Or.inr ⟨by omega, by omega, ?_⟩
            rw [md.1, md.2.1, md.2.2, sr.2, q5, slot_env ok h6 h2]
            exact et
          · exact c1.2
        have := H g4 w4 f3 c4
        rw [q4, put_c (by decide), q3, put_eq]
        rw [q4, q3] at this
        exact this
  · rcases hr with q | ⟨q, l, n, e1, e2, e3, e4⟩
    · refine ⟨h6, o.1, ?_⟩
      have db := ok.drm h6
      have ob := soundI_b h2.1
      rw [hp.2.2.2.2.1, (pl_bd hp h6).2, am_w_id (by omega) (by omega), es]
      refine k_rest hs hw (am_w_id (by omega) (by omega)) (by omega) ⟨_, rfl, hw, ?_⟩
      have := H h hw fr.rfl hc
      unfold toneS at this
      rw [if_neg q.1] at this
      exact this
    · omega
theorem k_step_8 {wk bt : Int} (hs : am_sc scr) (hpl : p ∈ PL) (ok : wok a f) (hK : K ≤ 600) (h3 : 0 ≤ hu ∧ hu < 10) (h2 : 0 ≤ st ∧ st < 360) (hact : actI st < a 3) (hst : st % 2 = 0) (hbt : 0 ≤ bt ∧ bt < 1000000000) : ∀ (m n : Nat) (h : am_H), wf h → hsC h hid a f → plC h p hid a hu st → h.2.2.2 p 7 = bt → lwS LW K (h.2.2.2 hid 0) a f → caC h LW K → (n : Int) + m = a 4 → (∀ g, wf g → fr [10, 11, 12, 13, 14, 15] [(p, 4), (p, 5), (p, 6), (p, 7), (p, 8)] h g → caC g LW K → plC g p hid a hu (beatS a f hu st wk) → g.2.2.2 p 7 = (if snorS a f hu st wk = -1 then bt else bt + 1) → Q (some (.inl (snorS a f hu st wk))) g) → am_R (am_prog scr) (d + 3) f_Stage_step 8 [some (.inr (.inr ((9 : Nat) : Int))), some (.inr (.inr (((p) : Nat) : Int))), some (.inl (wk)), some (.inl ((snS a f hu st wk n).1)), some (.inl ((snS a f hu st wk n).2)), some (.inl ((n : Int))), none] [] h Q := by
  have n4 := ok.1
  have rg := pl_rg hpl
  have l1 := lastI_b h2.1
  have l2 := soundI_b h2.1
  have l3 := actI_b h2
  have a34 := ok.2.2.1
  intro m
  induction m with
  | zero =>
    intro n h hw hh hp hb hl hc hn H
    have o := hs_o hh hp
    have e4 : h.2.2.2 hid 4 = a 4 := hh.2.2.2.2.2.1
    have esn : (snS a f hu st wk n).1 = snorS a f hu st wk := by unfold snorS; rw [show (a 4).toNat = n by omega]
    refine w_Stage_step_8 hpl hs hw ⟨o.1, ?_⟩
    rw [o.2, e4, esn]
    have sb := snorS_b ok (hu := hu) (wk := wk) h2.1
    refine ⟨fun _ => ⟨fun c => ?_, fun c g1 q1 => ?_⟩, fun c => by omega⟩
    · refine k_tone hs hw hpl ok hh hp hl hK hc h3 h2 (by omega) (fun g wg fg hcg => ⟨_, rfl, wg, fun g1 q1 g2 q2 => ?_⟩)
      have tb := toneS_b ok (hu := hu) (st := st) (s := snorS a f hu st wk)
      have f0 : fr [10, 11, 12, 13, 14, 15] [(p, 4), (p, 5), (p, 6), (p, 7), (p, 8)] h g2 := by
        rw [q2, q1]
        refine fr.put (fr.put (fg.mono (by simp) (by simp)) ?_) ?_ <;> exact Or.inr (by simp)
      have np : ∀ k, k ≠ 1 ∧ k ≠ 2 → ∀ (g : am_H) (x : Int), wf g → wf (am_put g p k x) := fun k hk g x w => w.put (pl_np hpl hk)
      have w2 : wf g2 := by rw [q2, q1]; exact np 4 (by omega) _ _ (np 5 (by omega) _ _ wg)
      obtain ⟨hh2, eg2⟩ := hh.fr f0 (by simp) (by simp; omega)
      have hpg := hp.fr fg (by simp; omega) (by simp)
      have r2 : ∀ k, g2.2.2.2 p k = if k = 4 then snorS a f hu st wk else if k = 5 then toneS a f hu st (snorS a f hu st wk) else g.2.2.2 p k := by
        intro k
        rw [q2, q1]
        simp only [put_at, true_and]
      have r0 : g2.2.2.2 p 0 = (hid : Int) := by rw [r2 0]; exact hpg.1
      have ro : am_isO g2 (g2.2.2.2 p 0) 1 := by
        rw [r0]; exact ⟨by omega, by rw [Int.toNat_natCast]; exact hh2.2.1⟩
      refine ⟨ro, ?_⟩
      have r5 : g2.2.2.2 p 5 = toneS a f hu st (snorS a f hu st wk) := by rw [r2 5]; rfl
      have r6 : g2.2.2.2 p 6 = actI st := by rw [r2 6]; exact hpg.2.2.2.2.2.1
      have r7 : g2.2.2.2 p 7 = bt := by
        rw [r2 7, if_neg (by omega), if_neg (by omega), fg.c p (by simp; omega) (by simp)]
        exact hb
      have e5 : g2.2.2.2 hid 9 = a 5 := hh2.2.2.2.2.2.2.1
      rw [r0, Int.toNat_natCast, r5, r6, r7, e5]
      have c2 : caC g2 LW K := by
        have t : fr [] [(p, 4), (p, 5)] g g2 := by
          rw [q2, q1]
          refine fr.put (fr.put fr.rfl ?_) ?_ <;> exact Or.inr (by simp)
        exact hcg.fr t (by simp) (by simp; omega)
      have fin : ∀ (g3 : am_H) (z : Int), (∀ k, g3.2.2.2 p k = if k = 7 then bt + 1 else if k = 6 then actI st + z else g2.2.2.2 p k) → wf g3 → fr [] [(p, 6), (p, 7)] g2 g3 → z = (if toneS a f hu st (snorS a f hu st wk) = a 5 then 1 else 0) → Q (some (.inl (snorS a f hu st wk))) g3 := by
        intro g3 z r3 w3 t3 hz
        have hz1 : 0 ≤ z ∧ z ≤ 1 := by rw [hz]; split <;> omega
        have eb : beatS a f hu st wk = standI (actI st + z) (snorS a f hu st wk) (toneS a f hu st (snorS a f hu st wk)) 0 := by unfold beatS; rw [if_neg c, hz]
        have si := standI_of (x := actI st + z) (l := snorS a f hu st wk) (s := toneS a f hu st (snorS a f hu st wk)) (t := 0) (by have := ok.2.1; omega)
        refine H g3 w3 ?_ (c2.fr t3 (by simp) (by simp; omega)) ?_ ?_
        · exact f0.trans (t3.mono (by simp) (by simp))
        · unfold plC
          have ep1 : g3.2.2.2 (p + 1) = g.2.2.2 (p + 1) := by rw [t3.c (p + 1) (by simp) (by simp), q2, put_c (by omega), q1, put_c (by omega)]
          have ep2 : g3.2.2.2 (p + 2) = g.2.2.2 (p + 2) := by rw [t3.c (p + 2) (by simp) (by simp), q2, put_c (by omega), q1, put_c (by omega)]
          rw [ep1, ep2, eb, si.2.1, si.2.2.1, si.2.2.2.1, si.2.2.2.2, if_neg (by omega)]
          refine ⟨by rw [r3 0]; exact r0, hpg.2.1, ?_, ?_, ?_, ?_, ?_⟩
          · rw [r3 3, if_neg (by omega), if_neg (by omega), r2 3, if_neg (by omega), if_neg (by omega)]; exact hpg.2.2.1
          · rw [r3 4, if_neg (by omega), if_neg (by omega), r2 4, if_pos rfl]
          · rw [r3 5, if_neg (by omega), if_neg (by omega), r5]
          · rw [r3 6, if_neg (by omega), if_pos rfl]
          · rw [r3 8, if_neg (by omega), if_neg (by omega), r2 8, if_neg (by omega), if_neg (by omega), hpg.2.2.2.2.2.2]; omega
        · rw [r3 7, if_pos rfl, if_neg c]
      refine ⟨fun c3 g3 q3 => ?_, fun c3 g3 q3 g4 q4 => ?_⟩
      · rw [am_w_id (by omega) (by omega)] at q3
        refine fin g3 0 ?_ (by rw [q3]; exact np 7 (by omega) _ _ w2) (by rw [q3]; exact fr.rfl.put (Or.inr (by simp))) (by rw [if_neg c3])
        intro k
        rw [q3]
        simp only [put_at, true_and]
        split
        · rfl
        · split
          · rename_i q; rw [q, r6]; omega
          · rfl
      · rw [am_w_id (by omega) (by omega)] at q3
        have t7 : g3.2.2.2 p 7 = bt := by rw [q3, put_ne (by omega)]; exact r7
        rw [t7, am_w_id (by omega) (by omega)] at q4
        refine fin g4 1 ?_ (by rw [q4, q3]; exact np 7 (by omega) _ _ (np 6 (by omega) _ _ w2)) (by rw [q4, q3]; refine fr.put (fr.put fr.rfl ?_) ?_ <;> exact Or.inr (by simp)) (by rw [if_pos c3])
        intro k
        rw [q4, q3]
        simp only [put_at, true_and]
    · have eb : beatS a f hu st wk = st + 1 := by unfold beatS; rw [if_pos c]
      have i1 : lastI (st + 1) = lastI st := by unfold lastI; omega
      have i2 : soundI (st + 1) = soundI st := by unfold soundI; omega
      have i3 : actI (st + 1) = actI st := by unfold actI; omega
      have r1 : ∀ k, g1.2.2.2 p k = if k = 8 then 1 else h.2.2.2 p k := by
        intro k
        rw [q1]
        simp only [put_at, true_and]
      have f1 : fr [10, 11, 12, 13, 14, 15] [(p, 4), (p, 5), (p, 6), (p, 7), (p, 8)] h g1 := by rw [q1]; exact fr.rfl.put (Or.inr (by simp))
      have w1 : wf g1 := by rw [q1]; exact hw.put (pl_np hpl (by omega))
      have t1 : fr [] [(p, 8)] h g1 := by rw [q1]; exact fr.rfl.put (Or.inr (by simp))
      have := H g1 w1 f1 (hc.fr t1 (by simp) (by simp; omega)) ?_ (by rw [r1 7, if_neg (by omega), if_pos c]; exact hb)
      · rw [c] at this; exact this
      · unfold plC
        have ep1 : g1.2.2.2 (p + 1) = h.2.2.2 (p + 1) := t1.c (p + 1) (by simp) (by simp)
        have ep2 : g1.2.2.2 (p + 2) = h.2.2.2 (p + 2) := t1.c (p + 2) (by simp) (by simp)
        rw [ep1, ep2, eb, i1, i2, i3, r1 0, r1 3, r1 4, r1 5, r1 6, r1 8]
        exact ⟨hp.1, hp.2.1, hp.2.2.1, hp.2.2.2.1, hp.2.2.2.2.1, hp.2.2.2.2.2.1, by rw [if_pos rfl]; omega⟩
  | succ m ih =>
    intro n h hw hh hp hb hl hc hn H
    have o := hs_o hh hp
    have e4 : h.2.2.2 hid 4 = a 4 := hh.2.2.2.2.2.1
    have el : h.2.2.2 p 4 = lastI st := by rw [hp.2.2.2.1, if_neg (by omega)]
    refine w_Stage_step_8 hpl hs hw ⟨o.1, ?_⟩
    rw [o.2, e4]
    have go : ∀ (g : am_H) (q : Int × Int) (y : Int), y = am_w ((n : Int) + 1) → wf g → fr [10, 11, 14, 15] [] h g → caC g LW K → q = snS a f hu st wk (n + 1) → am_R (am_prog scr) (d + 3) f_Stage_step 8 [some (.inr (.inr ((9 : Nat) : Int))), some (.inr (.inr (((p) : Nat) : Int))), some (.inl (wk)), some (.inl (q.1)), some (.inl (q.2)), some (.inl (y)), none] [] g Q := by
      intro g q y hy wg fg cg hq
      rw [am_w_id (by omega) (by omega)] at hy
      subst hy hq
      obtain ⟨hh2, eg2⟩ := hh.fr fg (by simp) (by simp)
      exact ih (n + 1) g wg hh2 (hp.fr fg (by simp; omega) (by simp)) (by rw [fg.c p (by simp; omega) (by simp)]; exact hb) (by rw [eg2]; exact hl) cg (by omega) (fun g2 w2 f2 => H g2 w2 ((fg.mono (by simp) (by simp)).trans f2))
    refine ⟨fun c => by omega, fun c => ⟨fun q1 y hy => ?_, fun q1 => ⟨fun q2 y hy => ?_, fun q2 => ?_⟩⟩⟩
    · rw [el] at q1
      exact go h (snS a f hu st wk n) y hy hw fr.rfl hc (by simp only [snS]; rw [if_pos q1])
    · rw [el] at q1
      exact go h (snS a f hu st wk n) y hy hw fr.rfl hc (by simp only [snS]; rw [if_neg q1, if_pos q2])
    · rw [el] at q1
      refine k_amount hs hw hpl ok hh hp hl hK hc h3 h2 (by omega) (fun g wg fg cg => ⟨_, rfl, wg, fun q3 y hy => ?_, fun q3 y hy => ?_⟩)
      · exact go g (snS a f hu st wk n) y hy wg fg cg (by simp only [snS]; rw [if_neg q1, if_neg q2, if_neg (by omega)])
      · exact go g ((n : Int), wouldS a f hu st n) y hy wg fg cg (by simp only [snS]; rw [if_neg q1, if_neg q2, if_pos (by omega)])
theorem k_step {wk bt : Int} (hs : am_sc scr) (hw : wf h) (hpl : p ∈ PL) (ok : wok a f) (hK : K ≤ 600) (h3 : 0 ≤ hu ∧ hu < 10) (h2 : 0 ≤ st ∧ st < 360) (hact : actI st < a 3) (hst : st % 2 = 0) (hbt : 0 ≤ bt ∧ bt < 1000000000) (hh : hsC h hid a f) (hp : plC h p hid a hu st) (hb : h.2.2.2 p 7 = bt) (hl : lwS LW K (h.2.2.2 hid 0) a f) (hc : caC h LW K) (H : ∀ g, wf g → fr [10, 11, 12, 13, 14, 15] [(p, 4), (p, 5), (p, 6), (p, 7), (p, 8)] h g → caC g LW K → plC g p hid a hu (beatS a f hu st wk) → g.2.2.2 p 7 = (if snorS a f hu st wk = -1 then bt else bt + 1) → Q (some (.inl (snorS a f hu st wk))) g) : am_R (am_prog scr) (d + 3) f_Stage_step 0 [some (.inr (.inr ((9 : Nat) : Int))), some (.inr (.inr (((p) : Nat) : Int))), some (.inl (wk)), none, none, none, none] [] h Q := by
  refine w_Stage_step_0 hpl hs hw ?_
  have n4 := ok.1
  exact k_step_8 hs hpl ok hK h3 h2 hact hst hbt (a 4).toNat 0 h hw hh hp hb hl hc (by omega) H
end STQ
