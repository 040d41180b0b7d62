/-! what the document says of a beat, over the reference's row a and what its laws say (f 0: answers, f 1: says) -/
def farS (a : Nat → Int) (s l : Int) : Int := if a (16 + s).toNat - a (16 + l).toNat < 0 then -(a (16 + s).toNat - a (16 + l).toNat) else a (16 + s).toNat - a (16 + l).toNat
def envS (a : Nat → Int) (hu st s : Int) (k : Nat) : Int := if k = 0 then s else if k = 1 then lastI st else if k = 2 then soundI st else if k = 3 then farS a s (lastI st) else if k = 4 then actI st else if k = 5 then a (22 + s).toNat else hu
def wouldS (a : Nat → Int) (f : Nat → (Nat → Int) → Int) (hu st s : Int) : Int := if a 6 = 1 then f 0 (envS a hu st s) else 10 - farS a s (lastI st)
/-- who of the first n, by how much -/
def snS (a : Nat → Int) (f : Nat → (Nat → Int) → Int) (hu st wk : Int) : Nat → Int × Int
  | 0 => (-1, 0)
  | n + 1 => if (n : Int) = lastI st then snS a f hu st wk n else if (n : Int) = wk then snS a f hu st wk n else if (snS a f hu st wk n).2 < wouldS a f hu st n then ((n : Int), wouldS a f hu st n) else snS a f hu st wk n
def snorS (a : Nat → Int) (f : Nat → (Nat → Int) → Int) (hu st wk : Int) : Int := (snS a f hu st wk (a 4).toNat).1
def toneS (a : Nat → Int) (f : Nat → (Nat → Int) → Int) (hu st s : Int) : Int := (if a 7 = 1 then f 1 (envS a hu st s) else soundI st + a (22 + s).toNat) % a 2
def beatS (a : Nat → Int) (f : Nat → (Nat → Int) → Int) (hu st wk : Int) : Int := if snorS a f hu st wk = -1 then st + 1 else standI (actI st + (if toneS a f hu st (snorS a f hu st wk) = a 5 then 1 else 0)) (snorS a f hu st wk) (toneS a f hu st (snorS a f hu st wk)) 0
def codesOf (a : Nat → Int) (i : Nat) : List Int := (List.range (a (10 + i)).toNat).map (fun j => a (212 + (a (8 + i)).toNat + j))
def lawOK (a : Nat → Int) (F : (Nat → Int) → Int) (i : Nat) : Prop := 0 ≤ a (8 + i) ∧ 0 ≤ a (10 + i) ∧ a (8 + i) + a (10 + i) ≤ 900 ∧ ∀ env, wdB env → wb (F env) ∧ runR env (codesOf a i) [] = some [F env]
def wok (a : Nat → Int) (f : Nat → (Nat → Int) → Int) : Prop := (0 ≤ a 4 ∧ a 4 ≤ 6) ∧ (1 ≤ a 2 ∧ a 2 ≤ 6) ∧ (1 ≤ a 3 ∧ a 3 ≤ 4) ∧ (0 ≤ a 5 ∧ a 5 < 6) ∧ (∀ s, s < 6 → (0 ≤ a (16 + s) ∧ a (16 + s) < 6) ∧ (0 ≤ a (22 + s) ∧ a (22 + s) < 10)) ∧ (a 6 = 1 → lawOK a (f 0) 0) ∧ (a 7 = 1 → lawOK a (f 1) 1)
theorem lastI_b {x : Int} (hx : 0 ≤ x) : 0 ≤ lastI x ∧ lastI x < 6 := by unfold lastI; omega
theorem soundI_b {x : Int} (hx : 0 ≤ x) : 0 ≤ soundI x ∧ soundI x < 6 := by unfold soundI; omega
theorem actI_b {x : Int} (hx : 0 ≤ x ∧ x < 360) : 0 ≤ actI x ∧ actI x < 5 := by unfold actI; omega
theorem wok.bed {a : Nat → Int} {f : Nat → (Nat → Int) → Int} (ok : wok a f) {s : Int} (hs : 0 ≤ s ∧ s < 6) : 0 ≤ a (16 + s).toNat ∧ a (16 + s).toNat < 6 := by
  have := (ok.2.2.2.2.1 s.toNat (by omega)).1
  rw [show (16 + s).toNat = 16 + s.toNat by omega]
  exact this
theorem wok.drm {a : Nat → Int} {f : Nat → (Nat → Int) → Int} (ok : wok a f) {s : Int} (hs : 0 ≤ s ∧ s < 6) : 0 ≤ a (22 + s).toNat ∧ a (22 + s).toNat < 10 := by
  have := (ok.2.2.2.2.1 s.toNat (by omega)).2
  rw [show (22 + s).toNat = 22 + s.toNat by omega]
  exact this
theorem wok.far {a : Nat → Int} {f : Nat → (Nat → Int) → Int} (ok : wok a f) {s l : Int} (hs : 0 ≤ s ∧ s < 6) (hl : 0 ≤ l ∧ l < 6) : 0 ≤ farS a s l ∧ farS a s l < 6 := by
  have h1 := ok.bed hs
  have h2 := ok.bed hl
  unfold farS
  split <;> omega
theorem wok.env {a : Nat → Int} {f : Nat → (Nat → Int) → Int} (ok : wok a f) {hu st s : Int} (hs : 0 ≤ s ∧ s < 6) (hst : 0 ≤ st ∧ st < 360) (hh : 0 ≤ hu ∧ hu < 10) : wdB (envS a hu st s) := by
  have h1 := lastI_b hst.1
  have h2 := soundI_b hst.1
  have h3 := actI_b hst
  have h4 := ok.far hs h1
  have h5 := ok.drm hs
  intro k hk
  unfold envS wb
  repeat' split
  all_goals omega
theorem wok.would {a : Nat → Int} {f : Nat → (Nat → Int) → Int} (ok : wok a f) {hu st s : Int} (hs : 0 ≤ s ∧ s < 6) (hst : 0 ≤ st ∧ st < 360) (hh : 0 ≤ hu ∧ hu < 10) : wb (wouldS a f hu st s) := by
  unfold wouldS
  split
  · rename_i q
    exact ((ok.2.2.2.2.2.1 q).2.2.2 _ (ok.env hs hst hh)).1
  · have h4 := ok.far hs (lastI_b hst.1)
    unfold wb
    omega
theorem snS_b {a : Nat → Int} {f : Nat → (Nat → Int) → Int} {hu st wk : Int} : ∀ n : Nat, -1 ≤ (snS a f hu st wk n).1 ∧ (snS a f hu st wk n).1 < n ∧ (snS a f hu st wk n).1 ≠ lastI st ∨ (snS a f hu st wk n).1 = -1 := by
  intro n
  induction n with
  | zero => exact Or.inr rfl
  | succ n ih =>
    simp only [snS]
    split
    · omega
    · split
      · omega
      · split
        · simp only; omega
        · omega
theorem snorS_b {a : Nat → Int} {f : Nat → (Nat → Int) → Int} (ok : wok a f) {hu st wk : Int} (hst : 0 ≤ st) : -1 ≤ snorS a f hu st wk ∧ snorS a f hu st wk < a 4 ∧ (snorS a f hu st wk = -1 ∨ snorS a f hu st wk ≠ lastI st) := by
  have h1 := snS_b (a := a) (f := f) (hu := hu) (st := st) (wk := wk) (a 4).toNat
  have h2 := ok.1
  have h3 := lastI_b hst
  unfold snorS
  omega
theorem toneS_b {a : Nat → Int} {f : Nat → (Nat → Int) → Int} (ok : wok a f) {hu st s : Int} : 0 ≤ toneS a f hu st s ∧ toneS a f hu st s < a 2 := by
  have h2 := ok.2.1
  unfold toneS
  exact ⟨Int.emod_nonneg _ (by omega), Int.emod_lt_of_pos _ (by omega)⟩
def overS (a : Nat → Int) (st : Int) : Prop := actI st = a 3 ∨ st % 2 = 1
theorem standI_of {x l s t : Int} (hx : 0 ≤ x ∧ x < 5 ∧ 0 ≤ l ∧ l < 6 ∧ 0 ≤ s ∧ s < 6 ∧ 0 ≤ t ∧ t < 2) : (0 ≤ standI x l s t ∧ standI x l s t < 360) ∧ actI (standI x l s t) = x ∧ lastI (standI x l s t) = l ∧ soundI (standI x l s t) = s ∧ standI x l s t % 2 = t := by
  unfold standI actI lastI soundI
  omega
/-- a stand that can be -/
def stOk (a : Nat → Int) (st : Int) : Prop := (0 ≤ st ∧ st < 360) ∧ actI st ≤ a 3 ∧ (lastI st < a 4 ∨ (a 4 = 0 ∧ lastI st = 0)) ∧ soundI st < a 2 ∧ (st % 2 = 1 → actI st < a 3)
theorem beatS_ok {a : Nat → Int} {f : Nat → (Nat → Int) → Int} (ok : wok a f) {hu st wk : Int} (hst : stOk a st) (ho : ¬ overS a st) : stOk a (beatS a f hu st wk) := by
  obtain ⟨b1, b2, b3, b4, b5⟩ := hst
  have h1 := snorS_b ok (hu := hu) (wk := wk) b1.1
  have h2 := toneS_b ok (hu := hu) (st := st) (s := snorS a f hu st wk)
  have h3 := ok.1
  have h4 := ok.2.1
  have h5 := ok.2.2.1
  have h6 := actI_b b1
  unfold overS at ho
  unfold beatS
  split
  · unfold stOk
    have e1 : actI (st + 1) = actI st := by unfold actI; omega
    have e2 : lastI (st + 1) = lastI st := by unfold lastI; omega
    have e3 : soundI (st + 1) = soundI st := by unfold soundI; omega
    rw [e1, e2, e3]
    refine ⟨by omega, by omega, by omega, by omega, by omega⟩
  · rename_i q
    have h7 : 0 ≤ (if toneS a f hu st (snorS a f hu st wk) = a 5 then (1 : Int) else 0) ∧ (if toneS a f hu st (snorS a f hu st wk) = a 5 then (1 : Int) else 0) ≤ 1 := by split <;> omega
    generalize (if toneS a f hu st (snorS a f hu st wk) = a 5 then (1 : Int) else 0) = z at h7
    obtain ⟨c1, c2, c3, c4, c5⟩ := standI_of (x := actI st + z) (l := snorS a f hu st wk) (s := toneS a f hu st (snorS a f hu st wk)) (t := 0) (by omega)
    unfold stOk
    rw [c2, c3, c4, c5]
    refine ⟨c1, by omega, by omega, by omega, by omega⟩
section BT
variable {scr : Nat × (Nat → Int)} {d : Nat} {h : am_H} {Q : Option am_V → am_H → Prop} {a : Nat → Int} {f : Nat → (Nat → Int) → Int}
theorem codesOf_get {i : Nat} {j : Nat} (hj : j < (codesOf a i).length) : (codesOf a i).getD j 0 = a (212 + (a (8 + i)).toNat + j) := by
  unfold codesOf at hj ⊢
  rw [List.getD_eq_getElem?_getD, List.getElem?_map]
  simp only [List.length_map, List.length_range] at hj
  rw [List.getElem?_range hj]
  rfl
theorem k_farOf2 {x y : Int} (hs : am_sc scr) (hw : wf h) (ha : h.2.2.2 110 = a) (ok : wok a f) (hx : 0 ≤ x ∧ x < 6) (hy : 0 ≤ y ∧ y < 6) (H : Q (some (.inl (farS a x y))) h) : am_R (am_prog scr) d f_M_farOf 0 [some (.inr (.inr ((109 : Nat) : Int))), some (.inl (x)), some (.inl (y)), none] [] h Q := by
  have l2 := ok.bed hx
  have l3 := ok.bed hy
  refine k_farOf hs hw ⟨hx.1, hx.2, hy.1, hy.2⟩ (by unfold al; rw [ha]; exact ⟨l2.1, l2.2, l3.1, l3.2⟩) ?_
  unfold al
  rw [ha]
  exact H
theorem k_reckons {i : Nat} {st s hu : Int} (hs : am_sc scr) (hw : wf h) (ha : h.2.2.2 110 = a) (ok : wok a f) (hi : i < 2) (ht : a (6 + i) = 1) (h1 : 0 ≤ s ∧ s < 6) (h2 : 0 ≤ st ∧ st < 360) (h3 : 0 ≤ hu ∧ hu < 10) (H : ∀ g, wf g → fr [114, 115] [] h g → Q (some (.inl (f i (envS a hu st s)))) g) : am_R (am_prog scr) (d + 1) f_M_reckons 0 [some (.inr (.inr ((109 : Nat) : Int))), some (.inl ((i : Int))), some (.inl (st)), some (.inl (s)), some (.inl (hu)), none, none, none] [] h Q := by
  have l1 := lastI_b h2.1
  have l2 := ok.bed h1
  have l3 := ok.bed l1
  refine w_M_reckons_0 hs hw ?_
  intro g1 e1
  have w1 : wf g1 := by rw [e1]; exact hw.pa (by decide +kernel)
  refine k_lastIn hs w1 (by omega) ⟨_, rfl, w1, ?_⟩
  intro g2 e2
  have w2 : wf g2 := by rw [e2]; exact w1.pa (by decide +kernel)
  refine k_soundIn hs w2 (by omega) ⟨_, rfl, w2, ?_⟩
  intro g3 e3
  have w3 : wf g3 := by rw [e3]; exact w2.pa (by decide +kernel)
  have a3 : g3.2.2.2 110 = a := by rw [e3, put_c (by decide), e2, put_c (by decide), e1, put_c (by decide), ha]
  refine k_lastIn hs w3 (by omega) ⟨_, rfl, w3, ?_⟩
  refine k_farOf2 hs w3 a3 ok h1 l1 ⟨_, rfl, w3, ?_⟩
  intro g4 e4
  have w4 : wf g4 := by rw [e4]; exact w3.pa (by decide +kernel)
  refine k_actIn hs w4 (by omega) ⟨_, rfl, w4, ?_⟩
  intro g5 e5
  have w5 : wf g5 := by rw [e5]; exact w4.pa (by decide +kernel)
  have a5 : g5.2.2.2 110 = a := by rw [e5, put_c (by decide), e4, put_c (by decide), a3]
  rw [am_w_id (by omega) (by omega)]
  refine ⟨by omega, ?_⟩
  intro g6 e6
  have w6 : wf g6 := by rw [e6]; exact w5.pa (by decide +kernel)
  intro g7 e7
  have w7 : wf g7 := by rw [e7]; exact w6.pa (by decide +kernel)
  have a7 : g7.2.2.2 110 = a := by rw [e7, put_c (by decide), e6, put_c (by decide), a5]
  have f7 : fr [114, 115] [] h g7 := by
    rw [e7, e6, e5, e4, e3, e2, e1]
    refine fr.put (fr.put (fr.put (fr.put (fr.put (fr.put (fr.put fr.rfl ?_) ?_) ?_) ?_) ?_) ?_) ?_ <;> exact Or.inl (by decide)
  have lo : lawOK a (f i) i := by
    rcases (by omega : i = 0 ∨ i = 1) with rfl | rfl
    · exact ok.2.2.2.2.2.1 ht
    · exact ok.2.2.2.2.2.2 ht
  have en : ∀ j, j < 7 → g7.2.2.2 115 j = envS a hu st s j := by
    intro j hj
    rw [e7, e6, a5, e5, e4, e3, e2, e1]
    simp only [put_at, true_and]
    unfold envS
    rcases (by omega : j = 0 ∨ j = 1 ∨ j = 2 ∨ j = 3 ∨ j = 4 ∨ j = 5 ∨ j = 6) with rfl | rfl | rfl | rfl | rfl | rfl | rfl <;> rfl
  have ew := ok.env h1 h2 h3
  have key := k_reck_82 (d := d) (Q := Q) hs (x1 := (i : Int)) (x2 := st) (x3 := s) (x4 := hu) (fm := a (8 + i)) (mo := a (10 + i)) (v := f i (envS a hu st s)) (by omega) ew (codesOf a i) 0 [] g7 w7 en (by unfold al; rw [a7]; congr 1) (by unfold al; rw [a7]; congr 1) lo.1 lo.2.2.1 (by omega) (by unfold codesOf; simp; have := lo.2.1; omega) (fun j hj => by
    rw [codesOf_get hj]; unfold al; rw [a7]; congr 1; have := lo.1; omega) trivial (by simp) (by simp) (lo.2.2.2 _ ew).2 (fun g wg fg => H g wg (f7.trans (fg.mono (by decide) (by simp))))
  exact key
theorem k_wouldOf {st s hu : Int} (hs : am_sc scr) (hw : wf h) (ha : h.2.2.2 110 = a) (ok : wok a f) (h1 : 0 ≤ s ∧ s < 6) (h2 : 0 ≤ st ∧ st < 360) (h3 : 0 ≤ hu ∧ hu < 10) (H : ∀ g, wf g → fr [114, 115] [] h g → Q (some (.inl (wouldS a f hu st s))) g) : am_R (am_prog scr) (d + 2) f_M_wouldOf 0 [some (.inr (.inr ((109 : Nat) : Int))), some (.inl (st)), some (.inl (s)), some (.inl (hu))] [] h Q := by
  refine w_M_wouldOf_0 hs hw ⟨fun q => ?_, fun q => ?_⟩
  · refine k_lastIn hs hw (by omega) ⟨_, rfl, hw, ?_⟩
    refine k_farOf2 hs hw ha ok h1 (lastI_b h2.1) ⟨_, rfl, hw, ?_⟩
    have h4 := ok.far h1 (lastI_b h2.1)
    rw [am_w_id (by omega) (by omega)]
    have := H h hw fr.rfl
    unfold wouldS at this
    rw [if_neg (by rw [← ha]; exact q)] at this
    exact this
  · refine k_reckons (i := 0) hs hw ha ok (by omega) (by rw [← ha]; exact q) h1 h2 h3 (fun g wg fg => ⟨_, rfl, wg, ?_⟩)
    have := H g wg fg
    unfold wouldS at this
    rw [if_pos (by rw [← ha]; exact q)] at this
    exact this
theorem k_snorer_9 {st wk hu : Int} (hs : am_sc scr) (ok : wok a f) (h2 : 0 ≤ st ∧ st < 360) (h3 : 0 ≤ hu ∧ hu < 10) : ∀ (m n : Nat) (h : am_H), wf h → h.2.2.2 110 = a → (n : Int) + m = a 4 → (∀ g, wf g → fr [114, 115] [] h g → Q (some (.inl (snorS a f hu st wk))) g) → am_R (am_prog scr) (d + 3) f_M_snorer 9 [some (.inr (.inr ((109 : Nat) : Int))), some (.inl (st)), some (.inl (wk)), some (.inl (hu)), some (.inl ((snS a f hu st wk n).1)), some (.inl ((snS a f hu st wk n).2)), some (.inl ((n : Int))), none] [] h Q := by
  intro m
  induction m with
  | zero =>
    intro n h hw ha hn H
    refine w_M_snorer_9 hs hw ⟨fun _ => ?_, fun c => ?_⟩
    · have := H h hw fr.rfl
      unfold snorS at this
      rw [show (a 4).toNat = n by omega] at this
      exact this
    · rw [ha] at c; omega
  | succ m ih =>
    intro n h hw ha hn H
    have h4 := ok.1
    refine w_M_snorer_9 hs hw ⟨fun c => ?_, fun c => ?_⟩
    · rw [ha] at c; omega
    · refine k_lastIn hs hw (by omega) ⟨_, rfl, hw, ?_⟩
      have go : ∀ (g : am_H) (p : Int × Int) (y : Int), y = am_w ((n : Int) + 1) → wf g → fr [114, 115] [] h g → p = snS a f hu st wk (n + 1) → am_R (am_prog scr) (d + 3) f_M_snorer 9 [some (.inr (.inr ((109 : Nat) : Int))), some (.inl (st)), some (.inl (wk)), some (.inl (hu)), some (.inl (p.1)), some (.inl (p.2)), some (.inl (y)), none] [] g Q := by
        intro g p y hy wg fg hp
        rw [am_w_id (by omega) (by omega)] at hy
        subst hy hp
        exact ih (n + 1) g wg ((fg.c 110 (by decide) (by simp)).trans ha) (by omega) (fun g2 w2 f2 => H g2 w2 (fg.trans f2))
      refine ⟨fun q => fun y hy => ?_, fun q => ⟨fun q2 => ?_, fun q2 => fun y hy => ?_⟩⟩
      · exact go h (snS a f hu st wk n) y hy hw fr.rfl (by simp only [snS]; rw [if_pos q])
      · refine k_wouldOf hs hw ha ok (by omega) h2 h3 (fun g wg fg => ⟨_, rfl, wg, fun q3 => fun y hy => ?_, fun q3 => fun y hy => ?_⟩)
        · exact go g (((n : Int), wouldS a f hu st n)) y hy wg fg (by simp only [snS]; rw [if_neg q, if_neg q2, if_pos q3])
        · exact go g (snS a f hu st wk n) y hy wg fg (by simp only [snS]; rw [if_neg q, if_neg q2, if_neg q3])
      · exact go h (snS a f hu st wk n) y hy hw fr.rfl (by simp only [snS]; rw [if_neg q, if_pos q2])
theorem k_snorer {st wk hu : Int} (hs : am_sc scr) (hw : wf h) (ha : h.2.2.2 110 = a) (ok : wok a f) (h2 : 0 ≤ st ∧ st < 360) (h3 : 0 ≤ hu ∧ hu < 10) (H : ∀ g, wf g → fr [114, 115] [] h g → Q (some (.inl (snorS a f hu st wk))) g) : am_R (am_prog scr) (d + 3) f_M_snorer 0 [some (.inr (.inr ((109 : Nat) : Int))), some (.inl (st)), some (.inl (wk)), some (.inl (hu)), none, none, none, none] [] h Q := by
  refine w_M_snorer_0 hs hw ?_
  have h4 := ok.1
  exact k_snorer_9 hs ok h2 h3 (a 4).toNat 0 h hw ha (by omega) H
theorem emod_t {v s : Int} (hs : 1 ≤ s) (hv : -2000000 ≤ v ∧ v ≤ 2000000) : (¬ v.tmod s < 0 → v.tmod s = v % s) ∧ (v.tmod s < 0 → v.tmod s + s = v % s) := by
  have h1 := Int.emod_nonneg v (b := s) (by omega)
  have h2 := Int.emod_lt_of_pos v (b := s) (by omega)
  have h3 := Int.mul_ediv_add_emod v s
  rcases Int.le_total 0 v with q | q
  · have := tm (b := s) q
    omega
  · have e4 : (-v).tmod s = -(v.tmod s) := Int.neg_tmod ..
    have e5 : (-v).tmod s = (-v) % s := tm (by omega)
    have h4 := Int.emod_nonneg (-v) (b := s) (by omega)
    have h5 := Int.emod_lt_of_pos (-v) (b := s) (by omega)
    have e7 := Int.mul_tdiv_add_tmod v s
    have e6 : (v.tmod s) % s = v % s := by
      have e8 := Int.add_mul_emod_self_left (v.tmod s) s (v.tdiv s)
      rw [Int.add_comm, e7] at e8
      exact e8.symm
    refine ⟨fun c => ?_, fun c => ?_⟩
    · rw [← e6, Int.emod_eq_of_lt (by omega) (by omega)]
    · rw [← e6, ← Int.add_emod_right, Int.emod_eq_of_lt (by omega) (by omega)]
theorem k_beatTo {st wk hu : Int} (hs : am_sc scr) (hw : wf h) (ha : h.2.2.2 110 = a) (ok : wok a f) (h2 : 0 ≤ st ∧ st < 360) (hact : actI st < a 3) (h3 : 0 ≤ hu ∧ hu < 10) (H : ∀ g, wf g → fr [114, 115] [] h g → Q (some (.inl (beatS a f hu st wk))) g) : am_R (am_prog scr) (d + 4) f_M_beatTo 0 [some (.inr (.inr ((109 : Nat) : Int))), some (.inl (st)), some (.inl (wk)), some (.inl (hu)), none, none, none] [] h Q := by
  have h4 := ok.2.1
  have h5 := ok.2.2.1
  have h6 := actI_b h2
  have sb := snorS_b ok (hu := hu) (wk := wk) h2.1
  have ob := soundI_b h2.1
  have n4 := ok.1
  refine w_M_beatTo_0 hs hw ?_
  refine k_snorer hs hw ha ok h2 h3 (fun g wg fg => ⟨_, rfl, wg, ?_⟩)
  have ga : g.2.2.2 110 = a := (fg.c 110 (by decide) (by simp)).trans ha
  have fin : snorS a f hu st wk ≠ -1 → ∀ (g2 : am_H) (z : Int), wf g2 → fr [114, 115] [] h g2 → z = toneS a f hu st (snorS a f hu st wk) → am_R (am_prog scr) (d + 3) f_M_actIn 0 [some (.inl (st))] [] g2 (fun v g8 => ∃ r9 : Int, v = some (.inl (r9)) ∧ wf g8 ∧ ((¬ (z = g8.2.2.2 110 5) → (am_R (am_prog scr) (d + 3) f_M_standOf 0 [some (.inl (am_w (r9 + 0))), some (.inl (snorS a f hu st wk)), some (.inl (z)), some (.inl (0))] [] g8 (fun v g10 => ∃ r11 : Int, v = some (.inl (r11)) ∧ wf g10 ∧ Q (some (.inl (r11))) g10))) ∧ (z = g8.2.2.2 110 5 → (am_R (am_prog scr) (d + 3) f_M_standOf 0 [some (.inl (am_w (r9 + 1))), some (.inl (snorS a f hu st wk)), some (.inl (z)), some (.inl (0))] [] g8 (fun v g10 => ∃ r11 : Int, v = some (.inl (r11)) ∧ wf g10 ∧ Q (some (.inl (r11))) g10))))) := by
    intro q g2 z w2 f2 hz
    have a2 : g2.2.2.2 110 = a := (f2.c 110 (by decide) (by simp)).trans ha
    have tb := toneS_b ok (hu := hu) (st := st) (s := snorS a f hu st wk)
    have HH := H g2 w2 f2
    unfold beatS at HH
    rw [if_neg q, ← hz] at HH
    refine k_actIn hs w2 (by omega) ⟨_, rfl, w2, fun c => ?_, fun c => ?_⟩
    · rw [a2] at c
      rw [if_neg c] at HH
      rw [am_w_id (by omega) (by omega)]
      exact k_standOf hs w2 (by omega) ⟨_, rfl, w2, HH⟩
    · rw [a2] at c
      rw [if_pos c] at HH
      rw [am_w_id (by omega) (by omega)]
      exact k_standOf hs w2 (by omega) ⟨_, rfl, w2, HH⟩
  refine ⟨fun q => ⟨fun q2 => ?_, fun q2 => ?_⟩, fun q => ?_⟩
  · refine k_soundIn hs wg (by omega) ⟨_, rfl, wg, ?_⟩
    have hd := ok.drm (s := snorS a f hu st wk) (by omega)
    rw [am_w_id (x := 22 + snorS a f hu st wk) (by omega) (by omega), ga]
    refine ⟨by omega, fun y hy => ⟨by omega, fun z hz => ?_⟩⟩
    rw [am_w_id (by omega) (by omega)] at hy
    have et : toneS a f hu st (snorS a f hu st wk) = y % a 2 := by unfold toneS; rw [if_neg (by rw [← ga]; exact q2), hy]
    have em := emod_t (v := y) (s := a 2) (by omega) (by omega)
    have eb1 := Int.emod_nonneg y (b := a 2) (by omega)
    have eb2 := Int.emod_lt_of_pos y (b := a 2) (by omega)
    refine ⟨fun c => ?_, fun c z2 hz2 => ?_⟩
    · exact fin q g z wg fg (by rw [et, hz, em.1 (by rw [← hz]; exact c)])
    · rw [am_w_id (by omega) (by omega), hz] at hz2
      exact fin q g z2 wg fg (by rw [et, hz2, em.2 (by rw [← hz]; exact c)])
  · refine k_reckons (i := 1) hs wg ga ok (by omega) (by rw [← ga]; exact q2) (by omega) h2 h3 (fun g3 w3 f3 => ⟨_, rfl, w3, ?_⟩)
    have a3 : g3.2.2.2 110 = a := (f3.c 110 (by decide) (by simp)).trans ga
    have f4 := fg.trans f3
    have vb : wb (f 1 (envS a hu st (snorS a f hu st wk))) := ((ok.2.2.2.2.2.2 (by rw [← ga]; exact q2)).2.2.2 _ (ok.env (by omega) h2 h3)).1
    have et : toneS a f hu st (snorS a f hu st wk) = f 1 (envS a hu st (snorS a f hu st wk)) % a 2 := by unfold toneS; rw [if_pos (by rw [← ga]; exact q2)]
    generalize f 1 (envS a hu st (snorS a f hu st wk)) = y at vb et ⊢
    unfold wb at vb
    rw [a3]
    refine ⟨by omega, fun z hz => ?_⟩
    have em := emod_t (v := y) (s := a 2) (by omega) (by omega)
    have eb1 := Int.emod_nonneg y (b := a 2) (by omega)
    have eb2 := Int.emod_lt_of_pos y (b := a 2) (by omega)
    refine ⟨fun c => ?_, fun c z2 hz2 => ?_⟩
    · exact fin q g3 z w3 f4 (by rw [et, hz, em.1 (by rw [← hz]; exact c)])
    · rw [am_w_id (by omega) (by omega), hz] at hz2
      exact fin q g3 z2 w3 f4 (by rw [et, hz2, em.2 (by rw [← hz]; exact c)])
  · have HH := H g wg fg
    unfold beatS at HH
    rw [if_pos q] at HH
    rw [am_w_id (by omega) (by omega)]
    exact HH
theorem k_hasEnded {st : Int} (hs : am_sc scr) (hw : wf h) (h2 : 0 ≤ st ∧ st < 360) (H : Q (some (.inl (if actI st = h.2.2.2 110 3 then 1 else 0))) h) : am_R (am_prog scr) (d + 1) f_M_hasEnded 0 [some (.inr (.inr ((109 : Nat) : Int))), some (.inl (st))] [] h Q := by
  refine w_M_hasEnded_0 hs hw ?_
  refine k_actIn hs hw (by omega) ⟨_, rfl, hw, fun c => ?_, fun c => ?_⟩
  · rw [if_neg c] at H; exact H
  · rw [if_pos c] at H; exact H
theorem k_isOver {st : Int} (hs : am_sc scr) (hw : wf h) (h2 : 0 ≤ st ∧ st < 360) (H : ∀ z : Int, (z = 1 ∧ overS (h.2.2.2 110) st) ∨ (z = 0 ∧ ¬ overS (h.2.2.2 110) st) → Q (some (.inl (z))) h) : am_R (am_prog scr) (d + 2) f_M_isOver 0 [some (.inr (.inr ((109 : Nat) : Int))), some (.inl (st))] [] h Q := by
  refine w_M_isOver_0 hs hw ?_
  refine k_hasEnded hs hw h2 ⟨_, rfl, hw, fun c => ?_, fun c => ?_⟩
  · refine H 1 (Or.inl ⟨rfl, Or.inl ?_⟩)
    split at c
    · assumption
    · omega
  · have c1 : ¬ actI st = h.2.2.2 110 3 := by
      intro e; rw [if_pos e] at c; omega
    rw [tm h2.1]
    refine ⟨fun c2 => H 0 (Or.inr ⟨rfl, fun e => ?_⟩), fun c2 => H 1 (Or.inl ⟨rfl, Or.inr c2⟩)⟩
    rcases e with e | e
    · exact c1 e
    · exact c2 e
theorem k_isSleeper {s : Int} (hs : am_sc scr) (hw : wf h) (hn : 0 ≤ h.2.2.2 110 4 ∧ h.2.2.2 110 4 ≤ 6) (H : ∀ z : Int, (z = 1 ∧ 0 ≤ s ∧ s < h.2.2.2 110 4) ∨ (z = 0 ∧ ¬ (0 ≤ s ∧ s < h.2.2.2 110 4)) → Q (some (.inl (z))) h) : am_R (am_prog scr) (d + 1) f_M_isSleeper 0 [some (.inr (.inr ((109 : Nat) : Int))), some (.inr (.inl (s))), none] [] h Q := by
  refine w_M_isSleeper_0 hs hw ?_
  rw [am_w_id (by omega) (by omega)]
  refine k_within hs hw ⟨_, rfl, hw, ?_, ?_⟩
  · split <;> simp
  · refine H _ ?_
    split
    · exact Or.inl ⟨rfl, by omega⟩
    · exact Or.inr ⟨rfl, by omega⟩
/-- why a beat can't be: 1, 2; 0 -/
def whyB (a : Nat → Int) (st deed : Int) (z : Int) : Prop := (z = 1 ∧ ¬ (0 ≤ deed ∧ deed ≤ a 4)) ∨ (z = 2 ∧ (0 ≤ deed ∧ deed ≤ a 4) ∧ overS a st) ∨ (z = 0 ∧ (0 ≤ deed ∧ deed ≤ a 4) ∧ ¬ overS a st)
theorem k_whyBeat {st deed : Int} (hs : am_sc scr) (hw : wf h) (hn : 0 ≤ h.2.2.2 110 4 ∧ h.2.2.2 110 4 ≤ 6) (h2 : 0 ≤ st ∧ st < 360) (hd : -2147483648 ≤ deed ∧ deed < 2147483648) (H : ∀ z : Int, whyB (h.2.2.2 110) st deed z → Q (some (.inl (z))) h) : am_R (am_prog scr) (d + 3) f_M_whyBeat 0 [some (.inr (.inr ((109 : Nat) : Int))), some (.inl (st)), some (.inr (.inl (deed))), none] [] h Q := by
  have part2 : (0 ≤ deed ∧ deed ≤ h.2.2.2 110 4) → am_R (am_prog scr) (d + 3) f_M_whyBeat 18 [some (.inr (.inr ((109 : Nat) : Int))), some (.inl (st)), some (.inr (.inl (deed))), none] [] h Q := by
    intro hd2
    refine w_M_whyBeat_18 hs hw ?_
    refine k_isOver hs hw h2 (fun z hz => ⟨_, rfl, hw, fun c => ?_, fun c => ?_⟩)
    · rcases hz with hz | hz
      · omega
      · exact H 0 (Or.inr (Or.inr ⟨rfl, hd2, hz.2⟩))
    · rcases hz with hz | hz
      · exact H 2 (Or.inr (Or.inl ⟨rfl, hd2, hz.2⟩))
      · omega
  refine w_M_whyBeat_0 hs hw ⟨fun c => part2 (by omega), fun c => ?_⟩
  rw [am_W_id (by omega) (by omega)]
  refine k_isSleeper hs hw hn (fun z hz => ⟨_, rfl, hw, fun c2 => part2 (by omega), fun c2 => H 1 (Or.inl ⟨rfl, by omega⟩)⟩)
theorem k_standNow (hs : am_sc scr) (hw : wf h) (hb : (0 ≤ h.2.2.2 110 14 ∧ h.2.2.2 110 14 < 5) ∧ (0 ≤ h.2.2.2 110 12 ∧ h.2.2.2 110 12 < 6) ∧ (0 ≤ h.2.2.2 110 13 ∧ h.2.2.2 110 13 < 6) ∧ (0 ≤ h.2.2.2 110 15 ∧ h.2.2.2 110 15 < 2)) (H : Q (some (.inl (standI (h.2.2.2 110 14) (h.2.2.2 110 12) (h.2.2.2 110 13) (h.2.2.2 110 15)))) h) : am_R (am_prog scr) (d + 1) f_M_standNow 0 [some (.inr (.inr ((109 : Nat) : Int)))] [] h Q := by
  refine w_M_standNow_0 hs hw ?_
  exact k_standOf hs hw (by omega) ⟨_, rfl, hw, H⟩
theorem k_isStand {st : Int} (hs : am_sc scr) (hw : wf h) (h2 : 0 ≤ st ∧ st < 360) (H : ∀ g, wf g → fr [110] [] h g → (∀ j, g.2.2.2 110 j = if j = 14 then actI st else if j = 12 then lastI st else if j = 13 then soundI st else if j = 15 then st % 2 else h.2.2.2 110 j) → Q none g) : am_R (am_prog scr) (d + 1) f_M_isStand 0 [some (.inr (.inr ((109 : Nat) : Int))), some (.inl (st))] [] h Q := by
  refine w_M_isStand_0 hs hw ?_
  refine k_actIn hs hw (by omega) ⟨_, rfl, hw, ?_⟩
  intro g1 e1
  have w1 : wf g1 := by rw [e1]; exact hw.pa (by decide +kernel)
  refine k_lastIn hs w1 (by omega) ⟨_, rfl, w1, ?_⟩
  intro g2 e2
  have w2 : wf g2 := by rw [e2]; exact w1.pa (by decide +kernel)
  refine k_soundIn hs w2 (by omega) ⟨_, rfl, w2, ?_⟩
  intro g3 e3
  have w3 : wf g3 := by rw [e3]; exact w2.pa (by decide +kernel)
  intro g4 e4
  have w4 : wf g4 := by rw [e4]; exact w3.pa (by decide +kernel)
  refine H g4 w4 ?_ ?_
  · rw [e4, e3, e2, e1]
    refine fr.put (fr.put (fr.put (fr.put fr.rfl ?_) ?_) ?_) ?_ <;> exact Or.inl (by decide)
  · intro j
    rw [e4, e3, e2, e1, tm h2.1]
    simp only [put_at, true_and]
    repeat' split
    all_goals first | rfl | omega
end BT
