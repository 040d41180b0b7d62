/-! the class: houses, plays, what is kept of the laws; amounts, tones, a beat -/
def lwC (h : am_H) (r t : Int) (F : (Nat → Int) → Int) : Prop := (t ≠ 1 ∧ r = -1) ∨ (t = 1 ∧ ∃ l n : Nat, r = (l : Int) ∧ 133 ≤ l ∧ h.2.2.1 l = (1, n) ∧ lawC (h.2.2.2 l) n F)
/-- cell hid is a house as the reference has it -/
def hsC (h : am_H) (hid : Nat) (a : Nat → Int) (f : Nat → (Nat → Int) → Int) : Prop := (133 ≤ hid ∨ hid = 21) ∧ (h.2.2.1 hid).1 = 11 ∧ h.2.2.2 hid 1 = a 1 ∧ h.2.2.2 hid 2 = a 2 ∧ h.2.2.2 hid 3 = a 3 ∧ h.2.2.2 hid 4 = a 4 ∧ h.2.2.2 hid 9 = a 5 ∧ h.2.2.2 hid 11 = a 0 ∧ lwC h (h.2.2.2 hid 12) (a 6) (f 0) ∧ lwC h (h.2.2.2 hid 13) (a 7) (f 1)
/-- the play p is in that house, at this stand -/
def plC (h : am_H) (p hid : Nat) (a : Nat → Int) (hu st : Int) : Prop := h.2.2.2 p 0 = (hid : Int) ∧ (∀ s, s < 6 → h.2.2.2 (p + 1) s = a (16 + s) ∧ h.2.2.2 (p + 2) s = a (22 + s)) ∧ h.2.2.2 p 3 = hu ∧ h.2.2.2 p 4 = (if a 4 = 0 then -1 else lastI st) ∧ h.2.2.2 p 5 = soundI st ∧ h.2.2.2 p 6 = actI st ∧ h.2.2.2 p 8 = st % 2
def envD (sl : Nat) (dr hu : Int) (k : Nat) : Int := if k = 0 then (sl / 6 % 6 : Nat) else if k = 1 then (sl / 36 % 6 : Nat) else if k = 2 then (sl / 216 % 6 : Nat) else if k = 3 then (sl % 6 : Nat) else if k = 4 then (sl / 1296 : Nat) else if k = 5 then dr else hu
/-- what is kept is true: of each house that was read LW says what its laws say -/
def caC (h : am_H) (LW : Nat → Nat → (Nat → Int) → Int) (K : Nat) : Prop := ∀ sl, sl < 6480 → (h.2.2.2 11 sl = 0 ∨ (100 ≤ h.2.2.2 11 sl ∧ h.2.2.2 11 sl < 100 * (K + 1) ∧ h.2.2.2 10 sl = LW (h.2.2.2 11 sl / 100).toNat 0 (envD sl (h.2.2.2 11 sl / 10 % 10) (h.2.2.2 11 sl % 10)))) ∧ (h.2.2.2 13 sl = 0 ∨ (100 ≤ h.2.2.2 13 sl ∧ h.2.2.2 13 sl < 100 * (K + 1) ∧ h.2.2.2 12 sl = LW (h.2.2.2 13 sl / 100).toNat 1 (envD sl (h.2.2.2 13 sl / 10 % 10) (h.2.2.2 13 sl % 10))))
def lwS (LW : Nat → Nat → (Nat → Int) → Int) (K : Nat) (ser : Int) (a : Nat → Int) (f : Nat → (Nat → Int) → Int) : Prop := (0 ≤ ser ∧ ser ≤ K) ∧ (a 6 = 1 → 1 ≤ ser ∧ LW ser.toNat 0 = f 0) ∧ (a 7 = 1 → 1 ≤ ser ∧ LW ser.toNat 1 = fun env => f 1 env % a 2)
theorem caC.fr {L : List Nat} {F : List (Nat × Nat)} {h g : am_H} {LW : Nat → Nat → (Nat → Int) → Int} {K : Nat} (hc : caC h LW K) (p : fr L F h g) (h1 : ∀ x ∈ L, x < 10 ∨ 13 < x) (h2 : ∀ q ∈ F, q.1 < 10 ∨ 13 < q.1) : caC g LW K := by
  have e : ∀ x, 10 ≤ x → x ≤ 13 → g.2.2.2 x = h.2.2.2 x := fun x a b => p.c x (fun q => by have := h1 x q; omega) (fun q hq => by have := h2 q hq; omega)
  unfold caC
  rw [e 10 (by omega) (by omega), e 11 (by omega) (by omega), e 12 (by omega) (by omega), e 13 (by omega) (by omega)]
  exact hc
theorem lwC.fr {L : List Nat} {F : List (Nat × Nat)} {h g : am_H} {r t : Int} {G : (Nat → Int) → Int} (hl : lwC h r t G) (p : fr L F h g) (h1 : ∀ x ∈ L, x < 133) (h2 : ∀ q ∈ F, q.1 < 133) : lwC g r t G := by
  rcases hl with q | ⟨q, l, n, e1, e2, e3, e4⟩
  · exact Or.inl q
  · refine Or.inr ⟨q, l, n, e1, e2, by rw [p.2.2.1]; exact e3, ?_⟩
    rw [p.c l (fun x => by have := h1 l x; omega) (fun x hx => by have := h2 x hx; omega)]
    exact e4
theorem hsC.fr {L : List Nat} {F : List (Nat × Nat)} {h g : am_H} {hid : Nat} {a : Nat → Int} {f : Nat → (Nat → Int) → Int} (hh : hsC h hid a f) (p : fr L F h g) (h1 : ∀ x ∈ L, x < 133 ∧ x ≠ 21) (h2 : ∀ q ∈ F, q.1 < 133 ∧ q.1 ≠ 21) : hsC g hid a f ∧ g.2.2.2 hid = h.2.2.2 hid := by
  obtain ⟨c1, c2, c3, c4, c5, c6, c7, c8, c9, c10⟩ := hh
  have e := p.c hid (fun x => by have := h1 hid x; omega) (fun x hx => by have := h2 x hx; omega)
  refine ⟨?_, e⟩
  unfold hsC
  rw [e, p.2.2.1]
  exact ⟨c1, c2, c3, c4, c5, c6, c7, c8, c9.fr p (fun x hx => (h1 x hx).1) (fun x hx => (h2 x hx).1), c10.fr p (fun x hx => (h1 x hx).1) (fun x hx => (h2 x hx).1)⟩
theorem pl_rg {p : Nat} (hp : p ∈ PL) : 24 ≤ p ∧ p ≤ 106 := by
  have : ∀ p ∈ PL, 24 ≤ p ∧ p ≤ 106 := by decide +kernel
  exact this p hp
theorem plC.fr {L : List Nat} {F : List (Nat × Nat)} {h g : am_H} {p hid : Nat} {a : Nat → Int} {hu st : Int} (hh : plC h p hid a hu st) (q : fr L F h g) (h1 : ∀ x ∈ L, x < p ∨ p + 2 < x) (h2 : ∀ x ∈ F, x.1 < p ∨ p + 2 < x.1) : plC g p hid a hu st := by
  have e : ∀ x, p ≤ x → x ≤ p + 2 → g.2.2.2 x = h.2.2.2 x := fun x a b => q.c x (fun y => by have := h1 x y; omega) (fun y hy => by have := h2 y hy; omega)
  unfold plC
  rw [e p (by omega) (by omega), e (p + 1) (by omega) (by omega), e (p + 2) (by omega) (by omega)]
  exact hh
def slotI (a : Nat → Int) (st s : Int) : Int := (((actI st * 6 + soundI st) * 6 + lastI st) * 6 + s) * 6 + farS a s (lastI st)
theorem slot_b {a : Nat → Int} {f : Nat → (Nat → Int) → Int} (ok : wok a f) {st s : Int} (h1 : 0 ≤ s ∧ s < 6) (h2 : 0 ≤ st ∧ st < 360) : 0 ≤ slotI a st s ∧ slotI a st s < 6480 := by
  have l1 := lastI_b h2.1
  have l2 := soundI_b h2.1
  have l3 := actI_b h2
  have l4 := ok.far h1 l1
  unfold slotI
  omega
theorem slot_env {a : Nat → Int} {f : Nat → (Nat → Int) → Int} (ok : wok a f) {st s hu : Int} (h1 : 0 ≤ s ∧ s < 6) (h2 : 0 ≤ st ∧ st < 360) : envD (slotI a st s).toNat (a (22 + s).toNat) hu = envS a hu st s := by
  have l1 := lastI_b h2.1
  have l2 := soundI_b h2.1
  have l3 := actI_b h2
  have l4 := ok.far h1 l1
  have l5 := slot_b ok h1 h2
  funext k
  unfold envD envS
  unfold slotI at l5 ⊢
  generalize lastI st = x1 at *
  generalize soundI st = x2 at *
  generalize actI st = x3 at *
  generalize farS a s x1 = x4 at *
  repeat' split
  all_goals first | rfl | omega
section STP
variable {scr : Nat × (Nat → Int)} {d : Nat} {h : am_H} {Q : Option am_V → am_H → Prop} {a : Nat → Int} {f : Nat → (Nat → Int) → Int} {LW : Nat → Nat → (Nat → Int) → Int} {K hid p : Nat} {hu st : Int}
theorem k_abs {x : Int} (hs : am_sc scr) (hw : wf h) (hx : -1000 ≤ x ∧ x ≤ 1000) (H : Q (some (.inl (if x < 0 then -x else x))) h) : am_R (am_prog scr) d f_jM_abs 0 [some (.inl (x))] [] h Q := by
  refine w_jM_abs_0 hs hw ⟨fun c => ?_, fun c => ?_⟩
  · rw [if_neg c] at H; exact H
  · rw [if_pos c] at H; rw [am_w_id (by omega) (by omega)]; exact H
theorem hs_o (hh : hsC h hid a f) (hp : plC h p hid a hu st) : am_isO h (h.2.2.2 p 0) 1 ∧ (h.2.2.2 p 0).toNat = hid := by
  rw [hp.1]
  exact ⟨⟨by omega, by rw [Int.toNat_natCast]; exact hh.2.1⟩, Int.toNat_natCast _⟩
theorem pl_bd (hp : plC h p hid a hu st) {s : Int} (hs : 0 ≤ s ∧ s < 6) : h.2.2.2 (p + 1) s.toNat = a (16 + s).toNat ∧ h.2.2.2 (p + 2) s.toNat = a (22 + s).toNat := by
  have := hp.2.1 s.toNat (by omega)
  rw [show (16 + s).toNat = 16 + s.toNat by omega, show (22 + s).toNat = 22 + s.toNat by omega]
  exact this
theorem k_far {s : Int} (hs : am_sc scr) (hw : wf h) (hpl : p ∈ PL) (ok : wok a f) (hp : plC h p hid a hu st) (h1 : 0 ≤ s ∧ s < 6) (h2 : 0 ≤ st ∧ st < 360) (hn : a 4 ≠ 0) (H : Q (some (.inl (farS a s (lastI st)))) h) : am_R (am_prog scr) (d + 1) f_Play_far 0 [some (.inr (.inr (((p) : Nat) : Int))), some (.inl (s))] [] h Q := by
  have l1 := lastI_b h2.1
  have b1 := ok.bed h1
  have b2 := ok.bed l1
  have e4 : h.2.2.2 p 4 = lastI st := by rw [hp.2.2.2.1, if_neg hn]
  refine w_Play_far_0 hpl hs hw ⟨fun c => ?_, fun c => by omega⟩
  rw [e4, (pl_bd hp h1).1, (pl_bd hp l1).1, am_w_id (by omega) (by omega)]
  refine ⟨h1, l1, k_abs hs hw (by omega) ⟨_, rfl, hw, ?_⟩⟩
  exact H
theorem k_slot {s x : Int} (hs : am_sc scr) (hw : wf h) (hpl : p ∈ PL) (ok : wok a f) (hp : plC h p hid a hu st) (h1 : 0 ≤ s ∧ s < 6) (h2 : 0 ≤ st ∧ st < 360) (hn : a 4 ≠ 0) (hx : x = farS a s (lastI st)) (H : Q (some (.inl (slotI a st s))) h) : am_R (am_prog scr) d f_Stage_slot 0 [some (.inr (.inr (((p) : Nat) : Int))), some (.inl (s)), some (.inl (x)), none] [] h Q := by
  have l1 := lastI_b h2.1
  have l2 := soundI_b h2.1
  have l3 := actI_b h2
  have l4 := ok.far h1 l1
  have e4 : h.2.2.2 p 4 = lastI st := by rw [hp.2.2.2.1, if_neg hn]
  refine w_Stage_slot_0 hpl hs hw (fun y hy => ?_)
  rw [e4, hp.2.2.2.2.1, hp.2.2.2.2.2.1] at hy
  unfold slotI at H
  rw [← hx] at H l4
  generalize lastI st = x1 at *
  generalize soundI st = x2 at *
  generalize actI st = x3 at *
  rw [am_w_id (x := x3 * 6) (by omega) (by omega), am_w_id (x := x3 * 6 + x2) (by omega) (by omega), am_w_id (x := (x3 * 6 + x2) * 6) (by omega) (by omega), am_w_id (by omega) (by omega)] at hy
  subst hy
  rw [am_w_id (x := ((x3 * 6 + x2) * 6 + x1) * 6) (by omega) (by omega), am_w_id (x := ((x3 * 6 + x2) * 6 + x1) * 6 + s) (by omega) (by omega), am_w_id (x := (((x3 * 6 + x2) * 6 + x1) * 6 + s) * 6) (by omega) (by omega), am_w_id (by omega) (by omega)]
  exact H
theorem k_mark {s : Int} (hs : am_sc scr) (hw : wf h) (hpl : p ∈ PL) (ok : wok a f) (hh : hsC h hid a f) (hp : plC h p hid a hu st) (hb : 0 ≤ h.2.2.2 hid 0 ∧ h.2.2.2 hid 0 ≤ 1000) (h3 : 0 ≤ hu ∧ hu < 10) (h1 : 0 ≤ s ∧ s < 6) (H : Q (some (.inl (100 * h.2.2.2 hid 0 + 10 * a (22 + s).toNat + hu))) h) : am_R (am_prog scr) d f_Stage_mark 0 [some (.inr (.inr (((p) : Nat) : Int))), some (.inl (s))] [] h Q := by
  have o := hs_o hh hp
  have b2 := ok.drm h1
  refine w_Stage_mark_0 hpl hs hw ⟨o.1, h1, ?_⟩
  rw [o.2, (pl_bd hp h1).2, hp.2.2.1]
  generalize h.2.2.2 hid 0 = x at *
  generalize a (22 + s).toNat = y at *
  rw [am_w_id (x := x * 10) (by omega) (by omega), am_w_id (x := x * 10 + y) (by omega) (by omega), am_w_id (x := (x * 10 + y) * 10) (by omega) (by omega), am_w_id (by omega) (by omega), show (x * 10 + y) * 10 + hu = 100 * x + 10 * y + hu by omega]
  exact H
theorem k_setValues {s x : Int} (hs : am_sc scr) (hw : wf h) (hpl : p ∈ PL) (hp : plC h p hid a hu st) (h1 : 0 ≤ s ∧ s < 6) (hn : a 4 ≠ 0) (hx : x = farS a s (lastI st)) (H : ∀ g, wf g → fr [14] [] h g → (∀ j, j < 7 → g.2.2.2 14 j = envS a hu st s j) → Q none g) : am_R (am_prog scr) d f_Stage_setValues 0 [some (.inr (.inr ((9 : Nat) : Int))), some (.inr (.inr (((p) : Nat) : Int))), some (.inl (s)), some (.inl (x))] [] h Q := by
  have e4 : h.2.2.2 p 4 = lastI st := by rw [hp.2.2.2.1, if_neg hn]
  have rg := pl_rg hpl
  have wp : ∀ (g : am_H) (j : Nat) (x : Int), wf g → wf (am_put g 14 j x) := fun g j x w => w.pa (by decide +kernel)
  refine w_Stage_setValues_0 hpl hs hw ?_
  intro g1 q1 g2 q2 g3 q3 g4 q4 g5 q5
  refine ⟨h1, ?_⟩
  intro g6 q6 g7 q7
  have c1 : g1.2.2.2 p = h.2.2.2 p := by rw [q1, put_c (by omega)]
  have c2 : g2.2.2.2 p = h.2.2.2 p := by rw [q2, put_c (by omega), c1]
  have c4 : g4.2.2.2 p = h.2.2.2 p := by rw [q4, put_c (by omega), q3, put_c (by omega), c2]
  have c5 : g5.2.2.2 (p + 2) = h.2.2.2 (p + 2) := by rw [q5, put_c (by omega), q4, put_c (by omega), q3, put_c (by omega), q2, put_c (by omega), q1, put_c (by omega)]
  have c6 : g6.2.2.2 p = h.2.2.2 p := by rw [q6, put_c (by omega), q5, put_c (by omega), c4]
  have e5 : g5.2.2.2 (p + 2) s.toNat = a (22 + s).toNat := by rw [c5]; exact (pl_bd hp h1).2
  rw [c1, e4] at q2
  rw [c2, hp.2.2.2.2.1] at q3
  rw [c4, hp.2.2.2.2.2.1] at q5
  rw [e5] at q6
  rw [c6, hp.2.2.1] at q7
  refine H g7 ?_ ?_ ?_
  · rw [q7, q6, q5, q4, q3, q2, q1]
    exact wp _ _ _ (wp _ _ _ (wp _ _ _ (wp _ _ _ (wp _ _ _ (wp _ _ _ (wp _ _ _ hw))))))
  · rw [q7, q6, q5, q4, q3, q2, q1]
    refine fr.put (fr.put (fr.put (fr.put (fr.put (fr.put (fr.put fr.rfl ?_) ?_) ?_) ?_) ?_) ?_) ?_ <;> exact Or.inl (by decide)
  · intro j hj
    rw [q7, q6, q5, q4, q3, q2, q1, hx]
    simp only [put_at, true_and]
    unfold envS
    rcases (by omega : j = 0 ∨ j = 1 ∨ j = 2 ∨ j = 3 ∨ j = 4 ∨ j = 5 ∨ j = 6) with rfl | rfl | rfl | rfl | rfl | rfl | rfl <;> rfl
/-- a mark, taken apart -/
theorem mark_d {x y z : Int} (hy : 0 ≤ y ∧ y < 10) (hz : 0 ≤ z ∧ z < 10) : (100 * x + 10 * y + z) / 100 = x ∧ (100 * x + 10 * y + z) / 10 % 10 = y ∧ (100 * x + 10 * y + z) % 10 = z := by omega
theorem k_amount {s : Int} (hs : am_sc scr) (hw : wf h) (hpl : p ∈ PL) (ok : wok a f) (hh : hsC h hid a f) (hp : plC h p hid a hu st) (hl : lwS LW K (h.2.2.2 hid 0) a f) (hK : K ≤ 600) (hc : caC h LW K) (h3 : 0 ≤ hu ∧ hu < 10) (h2 : 0 ≤ st ∧ st < 360) (h1 : 0 ≤ s ∧ s < a 4) (H : ∀ g, wf g → fr [10, 11, 14, 15] [] h g → caC g LW K → Q (some (.inl (wouldS a f hu st s))) g) : am_R (am_prog scr) (d + 2) f_Stage_amount 0 [some (.inr (.inr ((9 : Nat) : Int))), some (.inr (.inr (((p) : Nat) : Int))), some (.inl (s)), none, none, none] [] h Q := by
  have n4 := ok.1
  have h6 : 0 ≤ s ∧ s < 6 := by omega
  have o := hs_o hh hp
  have rg := pl_rg hpl
  have sb := slot_b ok h6 h2
  have fb := ok.far h6 (lastI_b h2.1)
  refine w_Stage_amount_0 hpl hs hw ?_
  refine k_far hs hw hpl ok hp h6 h2 (by omega) ⟨_, rfl, hw, o.1, ?_⟩
  rw [o.2]
  have hr := hh.2.2.2.2.2.2.2.2.1
  refine ⟨?_, fun c => ?_, fun c => ?_⟩
  · rcases hr with q | ⟨q, l, n, e1, -⟩
    · omega
    · omega
  · rcases hr with q | ⟨q, l, n, e1, e2, e3, e4⟩
    · exact absurd q.2 c
    · refine k_slot hs hw hpl ok hp h6 h2 (by omega) rfl ⟨_, rfl, hw, ?_⟩
      have sr := hl.2.1 q
      have sK := hl.1
      refine k_mark hs hw hpl ok hh hp (by omega) h3 h6 ⟨_, rfl, hw, sb, fun c2 => ⟨sb, ?_⟩, fun c2 => ?_⟩
      · have db := ok.drm h6
        have md := mark_d (x := h.2.2.2 hid 0) db h3
        rcases (hc (slotI a st s).toNat (by omega)).1 with c3 | ⟨c3, c4, c5⟩
        · omega
        · rw [c2, md.1, md.2.1, md.2.2, sr.2, slot_env ok h6 h2] at c5
          rw [c5]
          have := H h hw fr.rfl hc
          unfold wouldS at this
          rw [if_pos q] at this
          exact this
      · refine k_setValues hs hw hpl hp h6 (by omega) rfl (fun g wg fg hv => ⟨rfl, wg, ?_⟩)
        have hpg := hp.fr fg (by simp; omega) (by simp)
        obtain ⟨hhg, eg⟩ := hh.fr fg (by simp) (by simp)
        have og := hs_o hhg hpg
        refine ⟨og.1, ?_⟩
        rw [og.2, eg, e1]
        have el : g.2.2.2 l = h.2.2.2 l := fg.c l (by simp; omega) (by simp)
        refine k_tell hs wg (env := envS a hu st s) (F := f 0) (n := n) (by omega) (by rw [fg.2.2.1]; exact e3) (by rw [el]; exact e4) (ok.env h6 h2 h3) hv (fun g2 w2 f2 => ⟨_, rfl, w2, sb, fun g3 q3 => ⟨sb, fun g4 q4 => ⟨sb, ?_⟩⟩⟩)
        have f3 : fr [10, 11, 14, 15] [] h g4 := by
          rw [q4, q3]
          refine fr.put (fr.put ((fg.mono (by decide) (by simp)).trans (f2.mono (by decide) (by simp))) ?_) ?_ <;> exact Or.inl (by decide)
        have w4 : wf g4 := by rw [q4, q3]; exact (w2.pa (by decide +kernel)).pa (by decide +kernel)
        have c0 : caC g2 LW K := (hc.fr fg (by simp) (by simp)).fr f2 (by simp) (by simp)
        have db := ok.drm h6
        have md := mark_d (x := h.2.2.2 hid 0) db h3
        have c4 : caC g4 LW K := by
          intro sl hsl
          have c1 := c0 sl hsl
          have e10 : g4.2.2.2 10 sl = if sl = (slotI a st s).toNat then f 0 (envS a hu st s) else g2.2.2.2 10 sl := by rw [q4, put_c (by decide), q3]; simp only [put_at, true_and]
          have e11 : g4.2.2.2 11 sl = if sl = (slotI a st s).toNat then 100 * h.2.2.2 hid 0 + 10 * a (22 + s).toNat + hu else g2.2.2.2 11 sl := by rw [q4, q3]; simp only [put_at, true_and]; split <;> simp [*]
          have e12 : g4.2.2.2 12 = g2.2.2.2 12 := by rw [q4, put_c (by decide), q3, put_c (by decide)]
          have e13 : g4.2.2.2 13 = g2.2.2.2 13 := by rw [q4, put_c (by decide), q3, put_c (by decide)]
          rw [e10, e11, e12, e13]
          refine ⟨?_, c1.2⟩
          split
          · rename_i q5
            refine Or.inr ⟨by omega, by omega, ?_⟩
            rw [md.1, md.2.1, md.2.2, sr.2, q5, slot_env ok h6 h2]
          · exact c1.1
        have := H g4 w4 f3 c4
        unfold wouldS at this
        rw [if_pos q] at this
        rw [q4, put_c (by decide), q3, put_eq]
        rw [q4, q3] at this
        exact this
  · rcases hr with q | ⟨q, l, n, e1, e2, e3, e4⟩
    · rw [am_w_id (by omega) (by omega)]
      have := H h hw fr.rfl hc
      unfold wouldS at this
      rw [if_neg q.1] at this
      exact this
    · omega
end STP
