/-! the law's loop: calls that have no room of their own -/
def KT (scr : Nat × (Nat → Int)) (d : Nat) (Q : Option am_V → am_H → Prop) (B : Int) (n : Nat) (x : Int) : Prop := ∀ (g : am_H) (W : Wd) (ser : Nat) (a : Nat → Int), gI g W ser (B + 1000) a → szI g (n + 1) W → am_R (am_prog scr) (d + 72) f_L_law 18 [some (.inr (.inr (-1000))), some (.inr (.inr (((0) : Nat) : Int))), some (.inr (.inr ((109 : Nat) : Int))), some (.inl (x + 6))] [] g Q
def nT (h : am_H) (t : Int) : Nat := (h.2.2.2 131 t.toNat).toNat
def nmT (h : am_H) (t : Int) (i : Nat) : Int := h.2.2.2 132 (40 * t.toNat + i)
section LCa
variable {h g k : am_H} {W : Wd} {ser n : Nat} {B C : Int} {a : Nat → Int} {f : Nat → (Nat → Int) → Int} {L M : List Nat} {F N : List (Nat × Nat)} {t X z z2 w v : Int}
theorem gI.wc (G : gI h W ser B a) : wc h W := G.2.1
theorem gI.pl (G : gI h W ser B a) : plW h W 24 ser a := G.2.2.1
theorem gI.row (G : gI h W ser B a) : h.2.2.2 110 = a := G.2.2.2.1
theorem gI.ho (G : gI h W ser B a) : hok a (W.2.2.1 ser) B := G.2.2.2.2.1
theorem gI.rg (G : gI h W ser B a) : rgC h W ser a := G.2.2.2.2.2.1
theorem gI.gr (G : gI h W ser B a) : grI h W B := G.2.2.2.2.2.2.1
theorem gI.pc (G : gI h W ser B a) : plcI h W B := G.2.2.2.2.2.2.2.1
theorem gI.sn (G : gI h W ser B a) : snI h B := G.2.2.2.2.2.2.2.2.1
theorem gI.tl (G : gI h W ser B a) : tlI h := G.2.2.2.2.2.2.2.2.2.1
theorem gI.im (G : gI h W ser B a) : imR h W a B := G.2.2.2.2.2.2.2.2.2.2.1
theorem gI.tr (G : gI h W ser B a) : trR h := G.2.2.2.2.2.2.2.2.2.2.2.1
theorem gI.tp (G : gI h W ser B a) : tpR h := G.2.2.2.2.2.2.2.2.2.2.2.2.1
theorem gI.hr (G : gI h W ser B a) : hrI h W := G.2.2.2.2.2.2.2.2.2.2.2.2.2
theorem grI.le (x : grI h W B) (hc : B ≤ C) : grI h W C := grI.fr (L := []) (F := []) x fr.rfl (by simp) (by simp) hc
theorem plcI.le (x : plcI h W B) (hc : B ≤ C) : plcI h W C := plcI.fr (L := []) (F := []) x fr.rfl (by simp) (by simp) hc
theorem snI.le (x : snI h B) (hc : B ≤ C) : snI h C := snI.fr (L := []) (F := []) x fr.rfl (by simp) (by simp) hc
theorem gI.up (G : gI h W ser B a) : gI h W ser (B + 1000) a := G.cl G.1 fr.rfl G.wc (G.gr.le (by omega)) (G.pc.le (by omega)) (G.sn.le (by omega)) G.tl (by omega)
theorem szI.one (Z : szI h n W) (q : fr L F h g) : szI g (n + 1) W := by
  unfold szI at *
  rw [q.1, q.2.1]; omega
theorem szI.two (Z : szI h n W) (q : fr L F h g) (p : fr M N g k) : szI k (n + 1) W := by
  unfold szI at *
  rw [p.1, p.2.1, q.1, q.2.1]; omega
theorem w_b (h : am_w v = v) : -2147483648 ≤ v ∧ v < 2147483648 := am_w_rg h
theorem u_ln {P : Prop} {q : Nat → Int → Int} {e : Int} (x : (P → ∃ (n : Nat) (t : Int), LN a f n t ∧ z = q n t) ∧ (¬ P → z = e)) (y : (P → ∃ (n : Nat) (t : Int), LN a f n t ∧ z2 = q n t) ∧ (¬ P → z2 = e)) : z = z2 := by
  by_cases c : P
  · obtain ⟨n, t, l, e1⟩ := x.1 c
    obtain ⟨m, u, l2, e2⟩ := y.1 c
    obtain ⟨rfl, rfl⟩ := l.uniq l2
    rw [e1, e2]
  · rw [x.2 c, y.2 c]
theorem u_d {st : Int} (x : (0 ≤ v ∧ v ≤ 1 → ∃ u, isD a f v st u ∧ z = if u = 268435456 then -1 else u) ∧ (¬ (0 ≤ v ∧ v ≤ 1) → z = -2)) (y : (0 ≤ v ∧ v ≤ 1 → ∃ u, isD a f v st u ∧ z2 = if u = 268435456 then -1 else u) ∧ (¬ (0 ≤ v ∧ v ≤ 1) → z2 = -2)) : z = z2 := by
  by_cases c : 0 ≤ v ∧ v ≤ 1
  · obtain ⟨u, l, e1⟩ := x.1 c
    obtain ⟨u2, l2, e2⟩ := y.1 c
    obtain rfl := l.uniq l2
    rw [e1, e2]
  · rw [x.2 c, y.2 c]
theorem u_w {i st : Int} (x : (0 ≤ v ∧ v ≤ 1 → 0 ≤ i → wayP a f v i.toNat st z) ∧ (0 ≤ v ∧ v ≤ 1 → i < 0 → z = -3) ∧ (¬ (0 ≤ v ∧ v ≤ 1) → z = -2)) (y : (0 ≤ v ∧ v ≤ 1 → 0 ≤ i → wayP a f v i.toNat st z2) ∧ (0 ≤ v ∧ v ≤ 1 → i < 0 → z2 = -3) ∧ (¬ (0 ≤ v ∧ v ≤ 1) → z2 = -2)) : z = z2 := by
  by_cases c : 0 ≤ v ∧ v ≤ 1
  · by_cases c2 : 0 ≤ i
    · exact wayP.uniq _ (x.1 c c2) (y.1 c c2)
    · rw [x.2.1 c (by omega), y.2.1 c (by omega)]
  · rw [x.2.2 c, y.2.2 c]
theorem u_k {st : Int} (x : (ovA a → z = -5) ∧ (¬ ovA a → ∃ v, isK a f st v ∧ z = if v = 268435456 then -1 else v)) (y : (ovA a → z2 = -5) ∧ (¬ ovA a → ∃ v, isK a f st v ∧ z2 = if v = 268435456 then -1 else v)) : z = z2 := by
  by_cases c : ovA a
  · rw [x.1 c, y.1 c]
  · obtain ⟨u, l, e1⟩ := x.2 c
    obtain ⟨u2, l2, e2⟩ := y.2 c
    obtain rfl := l.uniq l2
    rw [e1, e2]
theorem u_kp {i st : Int} (x : (0 ≤ i ∧ i ≤ 99 → ¬ ovA a → keepP a f i.toNat st z) ∧ (0 ≤ i ∧ i ≤ 99 → ovA a → z = -5) ∧ (¬ (0 ≤ i ∧ i ≤ 99) → z = -3)) (y : (0 ≤ i ∧ i ≤ 99 → ¬ ovA a → keepP a f i.toNat st z2) ∧ (0 ≤ i ∧ i ≤ 99 → ovA a → z2 = -5) ∧ (¬ (0 ≤ i ∧ i ≤ 99) → z2 = -3)) : z = z2 := by
  by_cases c : 0 ≤ i ∧ i ≤ 99
  · by_cases c2 : ovA a
    · rw [x.2.1 c c2, y.2.1 c c2]
    · exact keepP.uniq _ (x.1 c c2) (y.1 c c2)
  · rw [x.2.2 c, y.2.2 c]
theorem u_f {st : Int} {b : Bool} (x : ∃ v, isF a f b st v ∧ z = if v = 268435456 then -1 else v) (y : ∃ v, isF a f b st v ∧ z2 = if v = 268435456 then -1 else v) : z = z2 := by
  obtain ⟨u, l, e1⟩ := x
  obtain ⟨u2, l2, e2⟩ := y
  obtain rfl := l.uniq l2
  rw [e1, e2]
theorem tr_c (x : trR h) : (0 ≤ t ∧ t ≤ 3) → h.2.2.2 (95 + 2 * t.toNat) 0 = 0 → trC h (95 + 2 * t.toNat) (nT h t) (nmT h t) := by
  intro ht e
  obtain ⟨y1, y2, y3, y4⟩ := x t.toNat (by omega)
  obtain ⟨z1, z2, z3⟩ := y4 (y1.mp e)
  unfold nT
  exact ⟨by omega, by rw [z2]; omega, fun i hi => z3 i (by omega)⟩
theorem tr_m {m : Nat} {num : Nat → Int} (x : trR h) (e1 : nT h t = m) (e2 : nmT h t = num) : (0 ≤ t ∧ t ≤ 3) → h.2.2.2 130 t.toNat ≠ -1 → trM h t m num := by
  intro ht e
  obtain ⟨y1, y2, y3, y4⟩ := x t.toNat (by omega)
  subst e1 e2
  unfold nT
  exact ⟨by omega, by omega, fun i _ => rfl⟩
theorem tr_i (x : trR h) (e : g.2.2.2 130 = h.2.2.2 130) (ht : 0 ≤ t ∧ t ≤ 3) : (h.2.2.2 (95 + 2 * t.toNat) 0 = 0 ↔ ¬ g.2.2.2 130 t.toNat = -1) := by
  rw [e]; exact (x t.toNat (by omega)).1
theorem tr_ans (x : trR h) (e : g.2.2.2 130 = h.2.2.2 130) : (if 0 ≤ t ∧ t ≤ 3 then (if h.2.2.2 (95 + 2 * t.toNat) 0 = 0 then X else -6) else -2) = (if 0 ≤ t ∧ t ≤ 3 then (if g.2.2.2 130 t.toNat = -1 then -6 else X) else -2) := by
  by_cases c : 0 ≤ t ∧ t ≤ 3
  · have i := tr_i x e c
    rw [if_pos c, if_pos c]
    by_cases c2 : g.2.2.2 130 t.toNat = -1
    · rw [if_pos c2, if_neg (fun z => i.mp z c2)]
    · rw [if_neg c2, if_pos (i.mpr c2)]
  · rw [if_neg c, if_neg c]
theorem tr_j (x : trR h) (e : g.2.2.2 130 = h.2.2.2 130) : (if 0 ≤ v ∧ v ≤ 3 then (if 0 ≤ t ∧ t ≤ 3 then (if h.2.2.2 (95 + 2 * t.toNat) 0 = 0 then X else -6) else -2) else -2) = (if 0 ≤ v ∧ v ≤ 3 then (if 0 ≤ t ∧ t ≤ 3 then (if g.2.2.2 130 t.toNat = -1 then -6 else X) else -2) else -2) := by rw [tr_ans x e]
theorem tr_u {P : Int → Prop} (x : trR h) (e : g.2.2.2 130 = h.2.2.2 130) (u : ∀ {z w : Int}, P z → P w → z = w) (q : (0 ≤ t ∧ t ≤ 3) → (¬ h.2.2.2 (95 + 2 * t.toNat) 0 = 0 → z = -6) ∧ (h.2.2.2 (95 + 2 * t.toNat) 0 = 0 → P z)) (q0 : ¬ (0 ≤ t ∧ t ≤ 3) → z = -2) (q2 : (0 ≤ t ∧ t ≤ 3) → (g.2.2.2 130 t.toNat = -1 → z2 = -6) ∧ (¬ g.2.2.2 130 t.toNat = -1 → P z2)) (q3 : ¬ (0 ≤ t ∧ t ≤ 3) → z2 = -2) : z = z2 := by
  by_cases c : 0 ≤ t ∧ t ≤ 3
  · have i := tr_i x e c
    by_cases c2 : g.2.2.2 130 t.toNat = -1
    · rw [(q c).1 (fun z => i.mp z c2), (q2 c).1 c2]
    · exact u ((q c).2 (i.mpr c2)) ((q2 c).2 c2)
  · rw [q0 c, q3 c]
end LCa
section LCb
variable {scr : Nat × (Nat → Int)} {d : Nat} {h : am_H} {Q : Option am_V → am_H → Prop} {W : Wd} {ser n : Nat} {B x : Int} {a : Nat → Int} {k : am_H}
theorem lc_tl {r r' : Int} {W' : Wd} {ser' : Nat} {a' : Nat → Int} (e : r = r') (G : gI k W' ser' (B + 1000) a') (Z : szI k (n + 1) W') (hx : 0 ≤ x ∧ x + 6 ≤ (scr.1 : Int)) (hs : am_sc scr) (K : KT scr d Q B n x) : (r = r' → (∀ y7, y7 = am_w (x + 6) → (am_R (am_prog scr) (d + 72) f_L_law 18 [some (.inr (.inr (-1000))), some (.inr (.inr (((0) : Nat) : Int))), some (.inr (.inr ((109 : Nat) : Int))), some (.inl (y7))] [] k Q))) ∧ (¬ (r = r') → (Q (some (.inl (0))) k)) := by
  have s1 := hs.1
  refine ⟨fun _ y hy => ?_, fun c => absurd e c⟩
  rw [am_w_id (by omega) (by omega)] at hy
  rw [hy]
  exact K k W' ser' a' G Z
theorem lc_2 (hs : am_sc scr) (G : gI h W ser B a) (Z : szI h n W) (hB : 0 ≤ B ∧ B < 600000) (hx : 0 ≤ x ∧ x + 6 ≤ (scr.1 : Int)) (K : KT scr d Q B n x) : am_R (am_prog scr) (d + 72) f_L_law 298 [some (.inr (.inr (-1000))), some (.inr (.inr (((0) : Nat) : Int))), some (.inr (.inr ((109 : Nat) : Int))), some (.inl (x))] [] h Q := by
  have s1 := hs.1
  refine w_L_law_298 hs G.1 ?_
  rw [am_w_id (x := x + 1) (by omega) (by omega)]
  refine ⟨by omega, k_Sfault hs G.1 ⟨_, rfl, G.1, by omega, k_Mfault hs G.1 (fun k wk fk => ⟨_, rfl, wk, ?_⟩)⟩⟩
  have t := G.tp.2.2.2.1
  refine lc_tl (by rw [t.1, t.2]) (G.up.rf wk (fk.mono (by decide) (by decide)) ((fk.c 110 (by decide) (by decide)).trans G.row)) (Z.one fk) hx hs K
theorem lc_3 (hs : am_sc scr) (G : gI h W ser B a) (Z : szI h n W) (hB : 0 ≤ B ∧ B < 600000) (hx : 0 ≤ x ∧ x + 6 ≤ (scr.1 : Int)) (K : KT scr d Q B n x) : am_R (am_prog scr) (d + 72) f_L_law 321 [some (.inr (.inr (-1000))), some (.inr (.inr (((0) : Nat) : Int))), some (.inr (.inr ((109 : Nat) : Int))), some (.inl (x))] [] h Q := by
  have s1 := hs.1
  refine w_L_law_321 hs G.1 ?_
  rw [am_w_id (x := x + 1) (by omega) (by omega), am_w_id (x := x + 2) (by omega) (by omega)]
  refine ⟨by omega, by omega, k_Ssleeper hs G.1 G.wc G.pl G.ho.1 ⟨_, rfl, G.1, by omega, by omega, k_Msleeper hs G.1 G.row G.ho.1 (fun k wk fk => ⟨_, rfl, wk, ?_⟩)⟩⟩
  refine lc_tl rfl (G.up.rf wk (fk.mono (by decide) (by decide)) ((fk.c 110 (by decide) (by decide)).trans G.row)) (Z.one fk) hx hs K
theorem lc_40 (hs : am_sc scr) (G : gI h W ser B a) (Z : szI h n W) (hB : 0 ≤ B ∧ B < 600000) (hx : 0 ≤ x ∧ x + 6 ≤ (scr.1 : Int)) (K : KT scr d Q B n x) : am_R (am_prog scr) (d + 72) f_L_law 1335 [some (.inr (.inr (-1000))), some (.inr (.inr (((0) : Nat) : Int))), some (.inr (.inr ((109 : Nat) : Int))), some (.inl (x))] [] h Q := by
  have s1 := hs.1
  refine w_L_law_1335 hs G.1 ?_
  rw [am_w_id (x := x + 1) (by omega) (by omega)]
  refine ⟨by omega, k_Scount hs G.1 G.wc G.pl G.rg G.ho.1 ⟨_, rfl, G.1, by omega, k_Mcount hs G.1 G.row G.ho.1 (fun k wk fk => ⟨_, rfl, wk, ?_⟩)⟩⟩
  refine lc_tl (by rw [G.tp.2.1]) (G.up.rf wk (fk.mono (by decide) (by decide)) ((fk.c 110 (by decide) (by decide)).trans G.row)) (Z.one fk) hx hs K
theorem lc_4 (hs : am_sc scr) (G : gI h W ser B a) (Z : szI h n W) (hB : 0 ≤ B ∧ B < 600000) (hx : 0 ≤ x ∧ x + 6 ≤ (scr.1 : Int)) (K : KT scr d Q B n x) : am_R (am_prog scr) (d + 72) f_L_law 354 [some (.inr (.inr (-1000))), some (.inr (.inr (((0) : Nat) : Int))), some (.inr (.inr ((109 : Nat) : Int))), some (.inl (x))] [] h Q := by
  have s1 := hs.1
  refine w_L_law_354 hs G.1 ?_
  rw [am_w_id (x := x + 1) (by omega) (by omega)]
  refine ⟨by omega, k_Swould hs G.1 G.wc G.pl G.ho.1 (fun g w f wo => ⟨_, rfl, w, by omega, ?_⟩)⟩
  have G2 := G.cl (C := B + 1000) w (f.mono (by decide) (by decide)) wo (G.gr.fr f (by decide) (by decide) (by omega)) (G.pc.fr f (by decide) (by decide) (by omega)) (G.sn.fr f (by decide) (by decide) (by omega)) (G.tl.fr f (by decide) (by decide)) (by omega)
  refine k_Mwould hs w G2.row G2.ho.1 (fun k wk fk => ⟨_, rfl, wk, ?_⟩)
  refine lc_tl rfl (G2.rf wk (fk.mono (by decide) (by decide)) ((fk.c 110 (by decide) (by decide)).trans G2.row)) (Z.two f fk) hx hs K
theorem lc_5 (hs : am_sc scr) (G : gI h W ser B a) (Z : szI h n W) (hB : 0 ≤ B ∧ B < 600000) (hx : 0 ≤ x ∧ x + 6 ≤ (scr.1 : Int)) (K : KT scr d Q B n x) : am_R (am_prog scr) (d + 72) f_L_law 377 [some (.inr (.inr (-1000))), some (.inr (.inr (((0) : Nat) : Int))), some (.inr (.inr ((109 : Nat) : Int))), some (.inl (x))] [] h Q := by
  have s1 := hs.1
  refine w_L_law_377 hs G.1 ?_
  rw [am_w_id (x := x + 1) (by omega) (by omega), am_w_id (x := x + 2) (by omega) (by omega)]
  refine ⟨by omega, by omega, k_Sby hs G.1 G.wc G.pl G.ho.1 (by omega) (hs.2 _) (fun g w f wo => ⟨_, rfl, w, by omega, by omega, ?_⟩)⟩
  have G2 := G.cl (C := B + 1000) w (f.mono (by decide) (by decide)) wo (G.gr.fr f (by decide) (by decide) (by omega)) (G.pc.fr f (by decide) (by decide) (by omega)) (G.sn.fr f (by decide) (by decide) (by omega)) (G.tl.fr f (by decide) (by decide)) (by omega)
  refine k_Mby hs w G2.row G2.ho.1 (hs.2 _) (fun k wk fk => ⟨_, rfl, wk, ?_⟩)
  refine lc_tl rfl (G2.rf wk (fk.mono (by decide) (by decide)) ((fk.c 110 (by decide) (by decide)).trans G2.row)) (Z.two f fk) hx hs K
theorem lc_15 (hs : am_sc scr) (G : gI h W ser B a) (Z : szI h n W) (hB : 0 ≤ B ∧ B < 600000) (hx : 0 ≤ x ∧ x + 6 ≤ (scr.1 : Int)) (K : KT scr d Q B n x) : am_R (am_prog scr) (d + 72) f_L_law 657 [some (.inr (.inr (-1000))), some (.inr (.inr (((0) : Nat) : Int))), some (.inr (.inr ((109 : Nat) : Int))), some (.inl (x))] [] h Q := by
  have s1 := hs.1
  refine w_L_law_657 hs G.1 ?_
  rw [am_w_id (x := x + 1) (by omega) (by omega)]
  refine ⟨by omega, k_Sgoes hs G.1 G.wc G.pl G.ho.1 (by omega) G.gr (fun g z w f wo y1 q => ⟨_, rfl, w, by omega, ?_⟩)⟩
  have G2 := G.cl (C := B + 1000) w (f.mono (by decide) (by decide)) wo (y1.le (by omega)) (G.pc.fr f (by decide) (by decide) (by omega)) (G.sn.fr f (by decide) (by decide) (by omega)) (G.tl.fr f (by decide) (by decide)) (by omega)
  refine k_Mgoes hs w G2.row G2.ho.1 (fun k z2 wk fk q2 => ⟨_, rfl, wk, ?_⟩)
  refine lc_tl (u_ln q q2) (G2.rf wk (fk.mono (by decide) (by decide)) ((fk.c 110 (by decide) (by decide)).trans G2.row)) (Z.two f fk) hx hs K
theorem lc_16 (hs : am_sc scr) (G : gI h W ser B a) (Z : szI h n W) (hB : 0 ≤ B ∧ B < 600000) (hx : 0 ≤ x ∧ x + 6 ≤ (scr.1 : Int)) (K : KT scr d Q B n x) : am_R (am_prog scr) (d + 72) f_L_law 680 [some (.inr (.inr (-1000))), some (.inr (.inr (((0) : Nat) : Int))), some (.inr (.inr ((109 : Nat) : Int))), some (.inl (x))] [] h Q := by
  have s1 := hs.1
  refine w_L_law_680 hs G.1 ?_
  rw [am_w_id (x := x + 1) (by omega) (by omega)]
  refine ⟨by omega, k_Slies hs G.1 G.wc G.pl G.ho.1 (by omega) G.gr (fun g z w f wo y1 q => ⟨_, rfl, w, by omega, ?_⟩)⟩
  have G2 := G.cl (C := B + 1000) w (f.mono (by decide) (by decide)) wo (y1.le (by omega)) (G.pc.fr f (by decide) (by decide) (by omega)) (G.sn.fr f (by decide) (by decide) (by omega)) (G.tl.fr f (by decide) (by decide)) (by omega)
  refine k_Mlies hs w G2.row G2.ho.1 (fun k z2 wk fk q2 => ⟨_, rfl, wk, ?_⟩)
  refine lc_tl (u_ln q q2) (G2.rf wk (fk.mono (by decide) (by decide)) ((fk.c 110 (by decide) (by decide)).trans G2.row)) (Z.two f fk) hx hs K
theorem lc_17 (hs : am_sc scr) (G : gI h W ser B a) (Z : szI h n W) (hB : 0 ≤ B ∧ B < 600000) (hx : 0 ≤ x ∧ x + 6 ≤ (scr.1 : Int)) (K : KT scr d Q B n x) : am_R (am_prog scr) (d + 72) f_L_law 703 [some (.inr (.inr (-1000))), some (.inr (.inr (((0) : Nat) : Int))), some (.inr (.inr ((109 : Nat) : Int))), some (.inl (x))] [] h Q := by
  have s1 := hs.1
  refine w_L_law_703 hs G.1 ?_
  rw [am_w_id (x := x + 1) (by omega) (by omega)]
  refine ⟨by omega, k_Sround hs G.1 G.wc G.pl G.ho.1 (by omega) G.gr (fun g z w f wo y1 q => ⟨_, rfl, w, by omega, ?_⟩)⟩
  have G2 := G.cl (C := B + 1000) w (f.mono (by decide) (by decide)) wo (y1.le (by omega)) (G.pc.fr f (by decide) (by decide) (by omega)) (G.sn.fr f (by decide) (by decide) (by omega)) (G.tl.fr f (by decide) (by decide)) (by omega)
  refine k_Mround hs w G2.row G2.ho.1 (fun k z2 wk fk q2 => ⟨_, rfl, wk, ?_⟩)
  refine lc_tl (u_ln q q2) (G2.rf wk (fk.mono (by decide) (by decide)) ((fk.c 110 (by decide) (by decide)).trans G2.row)) (Z.two f fk) hx hs K
theorem lc_18 (hs : am_sc scr) (G : gI h W ser B a) (Z : szI h n W) (hB : 0 ≤ B ∧ B < 600000) (hx : 0 ≤ x ∧ x + 6 ≤ (scr.1 : Int)) (K : KT scr d Q B n x) : am_R (am_prog scr) (d + 72) f_L_law 726 [some (.inr (.inr (-1000))), some (.inr (.inr (((0) : Nat) : Int))), some (.inr (.inr ((109 : Nat) : Int))), some (.inl (x))] [] h Q := by
  have s1 := hs.1
  refine w_L_law_726 hs G.1 ?_
  rw [am_w_id (x := x + 1) (by omega) (by omega)]
  refine ⟨by omega, k_Ssoonest hs G.1 G.wc G.pl G.ho.1 (by omega) G.gr (fun g z w f wo y1 q => ⟨_, rfl, w, by omega, ?_⟩)⟩
  have G2 := G.cl (C := B + 1000) w (f.mono (by decide) (by decide)) wo (y1.le (by omega)) (G.pc.fr f (by decide) (by decide) (by omega)) (G.sn.fr f (by decide) (by decide) (by omega)) (G.tl.fr f (by decide) (by decide)) (by omega)
  refine k_Msoonest hs w G2.row G2.ho.1 (fun k z2 wk fk q2 => ⟨_, rfl, wk, ?_⟩)
  refine lc_tl (u_d q q2) (G2.rf wk (fk.mono (by decide) (by decide)) ((fk.c 110 (by decide) (by decide)).trans G2.row)) (Z.two f fk) hx hs K
theorem lc_19 (hs : am_sc scr) (G : gI h W ser B a) (Z : szI h n W) (hB : 0 ≤ B ∧ B < 600000) (hx : 0 ≤ x ∧ x + 6 ≤ (scr.1 : Int)) (K : KT scr d Q B n x) : am_R (am_prog scr) (d + 72) f_L_law 749 [some (.inr (.inr (-1000))), some (.inr (.inr (((0) : Nat) : Int))), some (.inr (.inr ((109 : Nat) : Int))), some (.inl (x))] [] h Q := by
  have s1 := hs.1
  refine w_L_law_749 hs G.1 ?_
  rw [am_w_id (x := x + 1) (by omega) (by omega), am_w_id (x := x + 2) (by omega) (by omega)]
  refine ⟨by omega, by omega, k_Sway hs G.1 G.wc G.pl G.ho.1 (by omega) G.gr (hs.2 _) (fun g z w f wo y1 q => ⟨_, rfl, w, by omega, by omega, ?_⟩)⟩
  have G2 := G.cl (C := B + 1000) w (f.mono (by decide) (by decide)) wo (y1.le (by omega)) (G.pc.fr f (by decide) (by decide) (by omega)) (G.sn.fr f (by decide) (by decide) (by omega)) (G.tl.fr f (by decide) (by decide)) (by omega)
  refine k_Mway hs w G2.row G2.ho.1 (fun k z2 wk fk q2 => ⟨_, rfl, wk, ?_⟩)
  refine lc_tl (u_w q q2) (G2.rf wk (fk.mono (by decide) (by decide)) ((fk.c 110 (by decide) (by decide)).trans G2.row)) (Z.two f fk) hx hs K
theorem lc_21 (hs : am_sc scr) (G : gI h W ser B a) (Z : szI h n W) (hB : 0 ≤ B ∧ B < 600000) (hx : 0 ≤ x ∧ x + 6 ≤ (scr.1 : Int)) (K : KT scr d Q B n x) : am_R (am_prog scr) (d + 72) f_L_law 816 [some (.inr (.inr (-1000))), some (.inr (.inr (((0) : Nat) : Int))), some (.inr (.inr ((109 : Nat) : Int))), some (.inl (x))] [] h Q := by
  have s1 := hs.1
  refine w_L_law_816 hs G.1 ?_
  refine k_Skeeps hs G.1 G.wc G.pl G.ho.1 (by omega) G.gr (fun g z w f wo y1 q => ⟨_, rfl, w, ?_⟩)
  have G2 := G.cl (C := B + 1000) w (f.mono (by decide) (by decide)) wo (y1.le (by omega)) (G.pc.fr f (by decide) (by decide) (by omega)) (G.sn.fr f (by decide) (by decide) (by omega)) (G.tl.fr f (by decide) (by decide)) (by omega)
  refine k_Mkeeps hs w G2.row G2.ho.1 (fun k z2 wk fk q2 => ⟨_, rfl, wk, ?_⟩)
  refine lc_tl (u_k q q2) (G2.rf wk (fk.mono (by decide) (by decide)) ((fk.c 110 (by decide) (by decide)).trans G2.row)) (Z.two f fk) hx hs K
theorem lc_22 (hs : am_sc scr) (G : gI h W ser B a) (Z : szI h n W) (hB : 0 ≤ B ∧ B < 600000) (hx : 0 ≤ x ∧ x + 6 ≤ (scr.1 : Int)) (K : KT scr d Q B n x) : am_R (am_prog scr) (d + 72) f_L_law 829 [some (.inr (.inr (-1000))), some (.inr (.inr (((0) : Nat) : Int))), some (.inr (.inr ((109 : Nat) : Int))), some (.inl (x))] [] h Q := by
  have s1 := hs.1
  refine w_L_law_829 hs G.1 ?_
  rw [am_w_id (x := x + 1) (by omega) (by omega)]
  refine ⟨by omega, k_Skeeping hs G.1 G.wc G.pl G.ho.1 (by omega) G.gr (fun g z w f wo y1 q => ⟨_, rfl, w, by omega, ?_⟩)⟩
  have G2 := G.cl (C := B + 1000) w (f.mono (by decide) (by decide)) wo (y1.le (by omega)) (G.pc.fr f (by decide) (by decide) (by omega)) (G.sn.fr f (by decide) (by decide) (by omega)) (G.tl.fr f (by decide) (by decide)) (by omega)
  refine k_Mkeeping hs w G2.row G2.ho.1 (fun k z2 wk fk q2 => ⟨_, rfl, wk, ?_⟩)
  refine lc_tl (u_kp q q2) (G2.rf wk (fk.mono (by decide) (by decide)) ((fk.c 110 (by decide) (by decide)).trans G2.row)) (Z.two f fk) hx hs K
theorem lc_23 (hs : am_sc scr) (G : gI h W ser B a) (Z : szI h n W) (hB : 0 ≤ B ∧ B < 600000) (hx : 0 ≤ x ∧ x + 6 ≤ (scr.1 : Int)) (K : KT scr d Q B n x) : am_R (am_prog scr) (d + 72) f_L_law 852 [some (.inr (.inr (-1000))), some (.inr (.inr (((0) : Nat) : Int))), some (.inr (.inr ((109 : Nat) : Int))), some (.inl (x))] [] h Q := by
  have s1 := hs.1
  refine w_L_law_852 hs G.1 ?_
  refine k_SheardOf hs G.1 G.wc G.pl G.ho.1 (by omega) G.gr (fun g z w f wo y1 q => ⟨_, rfl, w, ?_⟩)
  have G2 := G.cl (C := B + 1000) w (f.mono (by decide) (by decide)) wo (y1.le (by omega)) (G.pc.fr f (by decide) (by decide) (by omega)) (G.sn.fr f (by decide) (by decide) (by omega)) (G.tl.fr f (by decide) (by decide)) (by omega)
  refine k_MheardOf hs w G2.row G2.ho.1 (fun k z2 wk fk q2 => ⟨_, rfl, wk, ?_⟩)
  refine lc_tl (q.uniq q2) (G2.rf wk (fk.mono (by decide) (by decide)) ((fk.c 110 (by decide) (by decide)).trans G2.row)) (Z.two f fk) hx hs K
theorem lc_31 (hs : am_sc scr) (G : gI h W ser B a) (Z : szI h n W) (hB : 0 ≤ B ∧ B < 600000) (hx : 0 ≤ x ∧ x + 6 ≤ (scr.1 : Int)) (K : KT scr d Q B n x) : am_R (am_prog scr) (d + 72) f_L_law 1047 [some (.inr (.inr (-1000))), some (.inr (.inr (((0) : Nat) : Int))), some (.inr (.inr ((109 : Nat) : Int))), some (.inl (x))] [] h Q := by
  have s1 := hs.1
  refine w_L_law_1047 hs G.1 ?_
  refine k_Sforces hs G.1 G.wc G.pl G.ho.1 (by omega) G.gr (fun g z w f wo y1 q => ⟨_, rfl, w, ?_⟩)
  have G2 := G.cl (C := B + 1000) w (f.mono (by decide) (by decide)) wo (y1.le (by omega)) (G.pc.fr f (by decide) (by decide) (by omega)) (G.sn.fr f (by decide) (by decide) (by omega)) (G.tl.fr f (by decide) (by decide)) (by omega)
  refine k_Mforces hs w G2.row G2.ho.1 (fun k z2 wk fk q2 => ⟨_, rfl, wk, ?_⟩)
  refine lc_tl (u_f q q2) (G2.rf wk (fk.mono (by decide) (by decide)) ((fk.c 110 (by decide) (by decide)).trans G2.row)) (Z.two f fk) hx hs K
theorem lc_32 (hs : am_sc scr) (G : gI h W ser B a) (Z : szI h n W) (hB : 0 ≤ B ∧ B < 600000) (hx : 0 ≤ x ∧ x + 6 ≤ (scr.1 : Int)) (K : KT scr d Q B n x) : am_R (am_prog scr) (d + 72) f_L_law 1060 [some (.inr (.inr (-1000))), some (.inr (.inr (((0) : Nat) : Int))), some (.inr (.inr ((109 : Nat) : Int))), some (.inl (x))] [] h Q := by
  have s1 := hs.1
  refine w_L_law_1060 hs G.1 ?_
  refine k_Sbest hs G.1 G.wc G.pl G.ho.1 (by omega) G.gr (fun g z w f wo y1 q => ⟨_, rfl, w, ?_⟩)
  have G2 := G.cl (C := B + 1000) w (f.mono (by decide) (by decide)) wo (y1.le (by omega)) (G.pc.fr f (by decide) (by decide) (by omega)) (G.sn.fr f (by decide) (by decide) (by omega)) (G.tl.fr f (by decide) (by decide)) (by omega)
  refine k_Mbest hs w G2.row G2.ho.1 (fun k z2 wk fk q2 => ⟨_, rfl, wk, ?_⟩)
  refine lc_tl (q.uniq q2) (G2.rf wk (fk.mono (by decide) (by decide)) ((fk.c 110 (by decide) (by decide)).trans G2.row)) (Z.two f fk) hx hs K
theorem lc_20 (hs : am_sc scr) (G : gI h W ser B a) (Z : szI h n W) (hB : 0 ≤ B ∧ B < 600000) (hx : 0 ≤ x ∧ x + 6 ≤ (scr.1 : Int)) (K : KT scr d Q B n x) : am_R (am_prog scr) (d + 72) f_L_law 782 [some (.inr (.inr (-1000))), some (.inr (.inr (((0) : Nat) : Int))), some (.inr (.inr ((109 : Nat) : Int))), some (.inl (x))] [] h Q := by
  have s1 := hs.1
  refine w_L_law_782 hs G.1 ?_
  rw [am_w_id (x := x + 1) (by omega) (by omega), am_w_id (x := x + 2) (by omega) (by omega)]
  refine ⟨by omega, by omega, k_Srows hs G.1 G.wc G.pl G.ho.1 (by omega) G.gr G.tl (fun g w f wo y1 y4 => ⟨_, rfl, w, by omega, by omega, ?_⟩)⟩
  have G2 := G.cl (C := B + 1000) w (f.mono (by decide) (by decide)) wo (y1.le (by omega)) (G.pc.fr f (by decide) (by decide) (by omega)) (G.sn.fr f (by decide) (by decide) (by omega)) y4 (by omega)
  refine k_Mrows hs w G2.row G2.ho.1 (fun k wk fk => ⟨_, rfl, wk, ?_⟩)
  refine lc_tl rfl (G2.rf wk (fk.mono (by decide) (by decide)) ((fk.c 110 (by decide) (by decide)).trans G2.row)) (Z.two f fk) hx hs K
theorem lc_33 (hs : am_sc scr) (G : gI h W ser B a) (Z : szI h n W) (hB : 0 ≤ B ∧ B < 600000) (hx : 0 ≤ x ∧ x + 6 ≤ (scr.1 : Int)) (K : KT scr d Q B n x) : am_R (am_prog scr) (d + 72) f_L_law 1073 [some (.inr (.inr (-1000))), some (.inr (.inr (((0) : Nat) : Int))), some (.inr (.inr ((109 : Nat) : Int))), some (.inl (x))] [] h Q := by
  have s1 := hs.1
  refine w_L_law_1073 hs G.1 ?_
  rw [am_w_id (x := x + 1) (by omega) (by omega), am_w_id (x := x + 2) (by omega) (by omega)]
  refine ⟨by omega, by omega, k_Schance hs G.1 G.wc G.pl G.ho.1 (by omega) G.gr G.tl (fun g w f wo y1 y4 => ⟨_, rfl, w, by omega, by omega, ?_⟩)⟩
  have G2 := G.cl (C := B + 1000) w (f.mono (by decide) (by decide)) wo (y1.le (by omega)) (G.pc.fr f (by decide) (by decide) (by omega)) (G.sn.fr f (by decide) (by decide) (by omega)) y4 (by omega)
  refine k_Mchance hs w G2.row G2.ho.1 (fun k wk fk => ⟨_, rfl, wk, ?_⟩)
  refine lc_tl rfl (G2.rf wk (fk.mono (by decide) (by decide)) ((fk.c 110 (by decide) (by decide)).trans G2.row)) (Z.two f fk) hx hs K
theorem lc_34 (hs : am_sc scr) (G : gI h W ser B a) (Z : szI h n W) (hB : 0 ≤ B ∧ B < 600000) (hx : 0 ≤ x ∧ x + 6 ≤ (scr.1 : Int)) (K : KT scr d Q B n x) : am_R (am_prog scr) (d + 72) f_L_law 1106 [some (.inr (.inr (-1000))), some (.inr (.inr (((0) : Nat) : Int))), some (.inr (.inr ((109 : Nat) : Int))), some (.inl (x))] [] h Q := by
  have s1 := hs.1
  refine w_L_law_1106 hs G.1 ?_
  rw [am_w_id (x := x + 1) (by omega) (by omega), am_w_id (x := x + 2) (by omega) (by omega)]
  refine ⟨by omega, by omega, k_Smean hs G.1 G.wc G.pl G.ho.1 (by omega) G.gr G.tl (fun g w f wo y1 y4 => ⟨_, rfl, w, by omega, by omega, ?_⟩)⟩
  have G2 := G.cl (C := B + 1000) w (f.mono (by decide) (by decide)) wo (y1.le (by omega)) (G.pc.fr f (by decide) (by decide) (by omega)) (G.sn.fr f (by decide) (by decide) (by omega)) y4 (by omega)
  refine k_Mmean hs w G2.row G2.ho.1 (fun k wk fk => ⟨_, rfl, wk, ?_⟩)
  refine lc_tl rfl (G2.rf wk (fk.mono (by decide) (by decide)) ((fk.c 110 (by decide) (by decide)).trans G2.row)) (Z.two f fk) hx hs K
theorem lc_24 (hs : am_sc scr) (G : gI h W ser B a) (Z : szI h n W) (hB : 0 ≤ B ∧ B < 600000) (hx : 0 ≤ x ∧ x + 6 ≤ (scr.1 : Int)) (K : KT scr d Q B n x) : am_R (am_prog scr) (d + 72) f_L_law 865 [some (.inr (.inr (-1000))), some (.inr (.inr (((0) : Nat) : Int))), some (.inr (.inr ((109 : Nat) : Int))), some (.inl (x))] [] h Q := by
  have s1 := hs.1
  refine w_L_law_865 hs G.1 ?_
  rw [am_w_id (x := x + 1) (by omega) (by omega)]
  refine ⟨by omega, k_Splacing hs G.1 G.wc G.pl G.ho.1 (by omega) G.sn (by omega) G.pc (w_b (hs.2 _)) (fun g w f wo y3 y2 => ⟨_, rfl, w, by omega, ?_⟩)⟩
  have G2 := G.cl (C := B + 1000) w (f.mono (by decide) (by decide)) wo (G.gr.fr f (by decide) (by decide) (by omega)) (y2.le (by omega)) (y3.le (by omega)) (G.tl.fr f (by decide) (by decide)) (by omega)
  refine k_Mplacing hs w G2.row G2.ho.1 (w_b (hs.2 _)) (fun k wk fk e110 => ⟨_, rfl, wk, ?_⟩)
  refine lc_tl rfl (G2.rf wk (fk.mono (by decide) (by decide)) e110) (Z.two f fk) hx hs K
theorem lc_25 (hs : am_sc scr) (G : gI h W ser B a) (Z : szI h n W) (hB : 0 ≤ B ∧ B < 600000) (hx : 0 ≤ x ∧ x + 6 ≤ (scr.1 : Int)) (K : KT scr d Q B n x) : am_R (am_prog scr) (d + 72) f_L_law 888 [some (.inr (.inr (-1000))), some (.inr (.inr (((0) : Nat) : Int))), some (.inr (.inr ((109 : Nat) : Int))), some (.inl (x))] [] h Q := by
  have s1 := hs.1
  refine w_L_law_888 hs G.1 ?_
  rw [am_w_id (x := x + 1) (by omega) (by omega)]
  refine ⟨by omega, k_Sfills hs G.1 G.wc G.pl G.ho.1 (by omega) G.sn (by omega) (fun g z w f wo y3 q => ⟨_, rfl, w, by omega, ?_⟩)⟩
  have G2 := G.cl (C := B + 1000) w (f.mono (by decide) (by decide)) wo (G.gr.fr f (by decide) (by decide) (by omega)) (G.pc.fr f (by decide) (by decide) (by omega)) (y3.le (by omega)) (G.tl.fr f (by decide) (by decide)) (by omega)
  refine k_Mfills hs w G2.row G2.ho.1 (fun k z2 wk fk e110 q2 => ⟨_, rfl, wk, ?_⟩)
  refine lc_tl (q.uniq q2) (G2.rf wk (fk.mono (by decide) (by decide)) e110) (Z.two f fk) hx hs K
theorem lc_12 (hs : am_sc scr) (G : gI h W ser B a) (Z : szI h n W) (hB : 0 ≤ B ∧ B < 600000) (hx : 0 ≤ x ∧ x + 6 ≤ (scr.1 : Int)) (K : KT scr d Q B n x) : am_R (am_prog scr) (d + 72) f_L_law 568 [some (.inr (.inr (-1000))), some (.inr (.inr (((0) : Nat) : Int))), some (.inr (.inr ((109 : Nat) : Int))), some (.inl (x))] [] h Q := by
  have s1 := hs.1
  refine w_L_law_568 hs G.1 ?_
  rw [am_w_id (x := x + 1) (by omega) (by omega), am_w_id (x := x + 2) (by omega) (by omega)]
  refine ⟨by omega, by omega, k_Sjudge (n := nT h (scr.2 (x + 1).toNat)) (num := nmT h (scr.2 (x + 1).toNat)) hs G.1 G.wc G.pl G.ho (by omega) (tr_c G.tr) (fun g w f wo => ⟨_, rfl, w, by omega, by omega, ?_⟩)⟩
  have G2 := G.cl (C := B + 1000) w (f.mono (by decide) (by decide)) wo (G.gr.fr f (by decide) (by decide) (by omega)) (G.pc.fr f (by decide) (by decide) (by omega)) (G.sn.fr f (by decide) (by decide) (by omega)) (G.tl.fr f (by decide) (by decide)) (by omega)
  refine k_Mjudge (n := nT h (scr.2 (x + 1).toNat)) (num := nmT h (scr.2 (x + 1).toNat)) hs w G2.row G2.ho (by omega) (tr_m G2.tr (by unfold nT; rw [f.c 131 (by decide) (by decide)]) (by unfold nmT; rw [f.c 132 (by decide) (by decide)])) (fun k wk fk e110 => ⟨_, rfl, wk, ?_⟩)
  refine lc_tl (tr_j G.tr (f.c 130 (by decide) (by decide))) (G2.rf wk (fk.mono (by decide) (by decide)) e110) (Z.two f fk) hx hs K
theorem lc_26 (hs : am_sc scr) (G : gI h W ser B a) (Z : szI h n W) (hB : 0 ≤ B ∧ B < 600000) (hx : 0 ≤ x ∧ x + 6 ≤ (scr.1 : Int)) (K : KT scr d Q B n x) : am_R (am_prog scr) (d + 72) f_L_law 911 [some (.inr (.inr (-1000))), some (.inr (.inr (((0) : Nat) : Int))), some (.inr (.inr ((109 : Nat) : Int))), some (.inl (x))] [] h Q := by
  have s1 := hs.1
  refine w_L_law_911 hs G.1 ?_
  rw [am_w_id (x := x + 1) (by omega) (by omega)]
  refine ⟨by omega, k_Sheard (n := nT h (scr.2 (x + 1).toNat)) (num := nmT h (scr.2 (x + 1).toNat)) hs G.1 G.wc G.pl G.ho.1 (by omega) G.gr (tr_c G.tr) (fun g w f wo y1 => ⟨_, rfl, w, by omega, ?_⟩)⟩
  have G2 := G.cl (C := B + 1000) w (f.mono (by decide) (by decide)) wo (y1.le (by omega)) (G.pc.fr f (by decide) (by decide) (by omega)) (G.sn.fr f (by decide) (by decide) (by omega)) (G.tl.fr f (by decide) (by decide)) (by omega)
  refine k_Mheard (n := nT h (scr.2 (x + 1).toNat)) (num := nmT h (scr.2 (x + 1).toNat)) hs w G2.row G2.ho.1 (tr_m G2.tr (by unfold nT; rw [f.c 131 (by decide) (by decide)]) (by unfold nmT; rw [f.c 132 (by decide) (by decide)])) (fun k wk fk => ⟨_, rfl, wk, ?_⟩)
  refine lc_tl (tr_ans G.tr (f.c 130 (by decide) (by decide))) (G2.rf wk (fk.mono (by decide) (by decide)) ((fk.c 110 (by decide) (by decide)).trans G2.row)) (Z.two f fk) hx hs K
theorem lc_27 (hs : am_sc scr) (G : gI h W ser B a) (Z : szI h n W) (hB : 0 ≤ B ∧ B < 600000) (hx : 0 ≤ x ∧ x + 6 ≤ (scr.1 : Int)) (K : KT scr d Q B n x) : am_R (am_prog scr) (d + 72) f_L_law 935 [some (.inr (.inr (-1000))), some (.inr (.inr (((0) : Nat) : Int))), some (.inr (.inr ((109 : Nat) : Int))), some (.inl (x))] [] h Q := by
  have s1 := hs.1
  refine w_L_law_935 hs G.1 ?_
  rw [am_w_id (x := x + 1) (by omega) (by omega), am_w_id (x := x + 2) (by omega) (by omega)]
  refine ⟨by omega, by omega, k_SheardBy (n := nT h (scr.2 (x + 1).toNat)) (num := nmT h (scr.2 (x + 1).toNat)) hs G.1 G.wc G.pl G.ho.1 (by omega) G.gr (tr_c G.tr) (fun g w f wo y1 => ⟨_, rfl, w, by omega, by omega, ?_⟩)⟩
  have G2 := G.cl (C := B + 1000) w (f.mono (by decide) (by decide)) wo (y1.le (by omega)) (G.pc.fr f (by decide) (by decide) (by omega)) (G.sn.fr f (by decide) (by decide) (by omega)) (G.tl.fr f (by decide) (by decide)) (by omega)
  refine k_MheardBy (n := nT h (scr.2 (x + 1).toNat)) (num := nmT h (scr.2 (x + 1).toNat)) hs w G2.row G2.ho.1 (tr_m G2.tr (by unfold nT; rw [f.c 131 (by decide) (by decide)]) (by unfold nmT; rw [f.c 132 (by decide) (by decide)])) (fun k wk fk => ⟨_, rfl, wk, ?_⟩)
  refine lc_tl (tr_ans G.tr (f.c 130 (by decide) (by decide))) (G2.rf wk (fk.mono (by decide) (by decide)) ((fk.c 110 (by decide) (by decide)).trans G2.row)) (Z.two f fk) hx hs K
theorem lc_28 (hs : am_sc scr) (G : gI h W ser B a) (Z : szI h n W) (hB : 0 ≤ B ∧ B < 600000) (hx : 0 ≤ x ∧ x + 6 ≤ (scr.1 : Int)) (K : KT scr d Q B n x) : am_R (am_prog scr) (d + 72) f_L_law 968 [some (.inr (.inr (-1000))), some (.inr (.inr (((0) : Nat) : Int))), some (.inr (.inr ((109 : Nat) : Int))), some (.inl (x))] [] h Q := by
  have s1 := hs.1
  refine w_L_law_968 hs G.1 ?_
  rw [am_w_id (x := x + 1) (by omega) (by omega), am_w_id (x := x + 2) (by omega) (by omega)]
  refine ⟨by omega, by omega, k_Ssuspects (n := nT h (scr.2 (x + 1).toNat)) (num := nmT h (scr.2 (x + 1).toNat)) hs G.1 G.wc G.pl G.ho.1 (by omega) G.gr (tr_c G.tr) (fun g z w f wo y1 q q0 => ⟨_, rfl, w, by omega, by omega, ?_⟩)⟩
  have G2 := G.cl (C := B + 1000) w (f.mono (by decide) (by decide)) wo (y1.le (by omega)) (G.pc.fr f (by decide) (by decide) (by omega)) (G.sn.fr f (by decide) (by decide) (by omega)) (G.tl.fr f (by decide) (by decide)) (by omega)
  refine k_Msuspects (n := nT h (scr.2 (x + 1).toNat)) (num := nmT h (scr.2 (x + 1).toNat)) hs w G2.row G2.ho.1 (tr_m G2.tr (by unfold nT; rw [f.c 131 (by decide) (by decide)]) (by unfold nmT; rw [f.c 132 (by decide) (by decide)])) (fun k z2 wk fk q2 q3 => ⟨_, rfl, wk, ?_⟩)
  refine lc_tl (tr_u G.tr (f.c 130 (by decide) (by decide)) (fun x y => suA.uniq x y) q q0 q2 q3) (G2.rf wk (fk.mono (by decide) (by decide)) ((fk.c 110 (by decide) (by decide)).trans G2.row)) (Z.two f fk) hx hs K
theorem lc_29 (hs : am_sc scr) (G : gI h W ser B a) (Z : szI h n W) (hB : 0 ≤ B ∧ B < 600000) (hx : 0 ≤ x ∧ x + 6 ≤ (scr.1 : Int)) (K : KT scr d Q B n x) : am_R (am_prog scr) (d + 72) f_L_law 1001 [some (.inr (.inr (-1000))), some (.inr (.inr (((0) : Nat) : Int))), some (.inr (.inr ((109 : Nat) : Int))), some (.inl (x))] [] h Q := by
  have s1 := hs.1
  refine w_L_law_1001 hs G.1 ?_
  rw [am_w_id (x := x + 1) (by omega) (by omega)]
  refine ⟨by omega, k_Shushes (n := nT h (scr.2 (x + 1).toNat)) (num := nmT h (scr.2 (x + 1).toNat)) hs G.1 G.wc G.pl G.ho.1 (by omega) (tr_c G.tr) (fun g z w f wo q q0 => ⟨_, rfl, w, by omega, ?_⟩)⟩
  have G2 := G.cl (C := B + 1000) w (f.mono (by decide) (by decide)) wo (G.gr.fr f (by decide) (by decide) (by omega)) (G.pc.fr f (by decide) (by decide) (by omega)) (G.sn.fr f (by decide) (by decide) (by omega)) (G.tl.fr f (by decide) (by decide)) (by omega)
  refine k_Mhushes (n := nT h (scr.2 (x + 1).toNat)) (num := nmT h (scr.2 (x + 1).toNat)) hs w G2.row G2.ho.1 (tr_m G2.tr (by unfold nT; rw [f.c 131 (by decide) (by decide)]) (by unfold nmT; rw [f.c 132 (by decide) (by decide)])) (fun k z2 wk fk q2 q3 => ⟨_, rfl, wk, ?_⟩)
  refine lc_tl (tr_u G.tr (f.c 130 (by decide) (by decide)) (fun x y => hsA.uniq x y) q q0 q2 q3) (G2.rf wk (fk.mono (by decide) (by decide)) ((fk.c 110 (by decide) (by decide)).trans G2.row)) (Z.two f fk) hx hs K
theorem lc_30 (hs : am_sc scr) (G : gI h W ser B a) (Z : szI h n W) (hB : 0 ≤ B ∧ B < 600000) (hx : 0 ≤ x ∧ x + 6 ≤ (scr.1 : Int)) (K : KT scr d Q B n x) : am_R (am_prog scr) (d + 72) f_L_law 1024 [some (.inr (.inr (-1000))), some (.inr (.inr (((0) : Nat) : Int))), some (.inr (.inr ((109 : Nat) : Int))), some (.inl (x))] [] h Q := by
  have s1 := hs.1
  refine w_L_law_1024 hs G.1 ?_
  rw [am_w_id (x := x + 1) (by omega) (by omega)]
  refine ⟨by omega, k_Sattempt (n := nT h (scr.2 (x + 1).toNat)) (num := nmT h (scr.2 (x + 1).toNat)) hs G.1 G.wc G.pl G.ho.1 (by omega) (tr_c G.tr) (fun g z w f wo q q0 => ⟨_, rfl, w, by omega, ?_⟩)⟩
  have G2 := G.cl (C := B + 1000) w (f.mono (by decide) (by decide)) wo (G.gr.fr f (by decide) (by decide) (by omega)) (G.pc.fr f (by decide) (by decide) (by omega)) (G.sn.fr f (by decide) (by decide) (by omega)) (G.tl.fr f (by decide) (by decide)) (by omega)
  refine k_Mattempt (n := nT h (scr.2 (x + 1).toNat)) (num := nmT h (scr.2 (x + 1).toNat)) hs w G2.row G2.ho.1 (tr_m G2.tr (by unfold nT; rw [f.c 131 (by decide) (by decide)]) (by unfold nmT; rw [f.c 132 (by decide) (by decide)])) (fun k z2 wk fk q2 q3 => ⟨_, rfl, wk, ?_⟩)
  refine lc_tl (tr_u G.tr (f.c 130 (by decide) (by decide)) (fun x y => atP.uniq x y) q q0 q2 q3) (G2.rf wk (fk.mono (by decide) (by decide)) ((fk.c 110 (by decide) (by decide)).trans G2.row)) (Z.two f fk) hx hs K
theorem lc_6 (hs : am_sc scr) (G : gI h W ser B a) (Z : szI h n W) (hB : 0 ≤ B ∧ B < 600000) (hx : 0 ≤ x ∧ x + 6 ≤ (scr.1 : Int)) (K : KT scr d Q B n x) : am_R (am_prog scr) (d + 72) f_L_law 410 [some (.inr (.inr (-1000))), some (.inr (.inr (((0) : Nat) : Int))), some (.inr (.inr ((109 : Nat) : Int))), some (.inl (x))] [] h Q := by
  have s1 := hs.1
  refine w_L_law_410 hs G.1 ?_
  rw [am_w_id (x := x + 1) (by omega) (by omega)]
  refine ⟨by omega, k_Sbeat hs G.1 G.wc G.pl G.rg G.ho (by omega) (hs.2 _) (fun g w f wo p1 r1 => ⟨_, rfl, w, by omega, ?_⟩)⟩
  have r0 : g.2.2.2 110 = a := (f.c 110 (by decide) (by decide)).trans G.row
  refine k_Mbeat hs w r0 G.ho (by omega) (hs.2 _) (fun k wk fk e110 => ⟨_, rfl, wk, ?_⟩)
  refine lc_tl rfl (G.deed (f.mono (by simp) (by decide)) wo p1 r1 wk (fk.mono (by decide) (by decide)) e110 (nx_beat G.ho _) (by omega)) (Z.two f fk) hx hs K
theorem lc_7 (hs : am_sc scr) (G : gI h W ser B a) (Z : szI h n W) (hB : 0 ≤ B ∧ B < 600000) (hx : 0 ≤ x ∧ x + 6 ≤ (scr.1 : Int)) (K : KT scr d Q B n x) : am_R (am_prog scr) (d + 72) f_L_law 433 [some (.inr (.inr (-1000))), some (.inr (.inr (((0) : Nat) : Int))), some (.inr (.inr ((109 : Nat) : Int))), some (.inl (x))] [] h Q := by
  have s1 := hs.1
  refine w_L_law_433 hs G.1 ?_
  rw [am_w_id (x := x + 1) (by omega) (by omega)]
  refine ⟨by omega, k_Sbeats hs G.1 G.wc G.pl G.rg G.ho (by omega) (fun g w f wo p1 r1 => ⟨_, rfl, w, by omega, ?_⟩)⟩
  have r0 : g.2.2.2 110 = a := (f.c 110 (by decide) (by decide)).trans G.row
  refine k_Mbeats hs w r0 G.ho (by omega) (fun k wk fk e110 => ⟨_, rfl, wk, ?_⟩)
  refine lc_tl rfl (G.deed (f.mono (by simp) (by decide)) wo p1 r1 wk (fk.mono (by decide) (by decide)) e110 (nx_beats G.ho _) (by omega)) (Z.two f fk) hx hs K
theorem lc_8 (hs : am_sc scr) (G : gI h W ser B a) (Z : szI h n W) (hB : 0 ≤ B ∧ B < 600000) (hx : 0 ≤ x ∧ x + 6 ≤ (scr.1 : Int)) (K : KT scr d Q B n x) : am_R (am_prog scr) (d + 72) f_L_law 456 [some (.inr (.inr (-1000))), some (.inr (.inr (((0) : Nat) : Int))), some (.inr (.inr ((109 : Nat) : Int))), some (.inl (x))] [] h Q := by
  have s1 := hs.1
  refine w_L_law_456 hs G.1 ?_
  rw [am_w_id (x := x + 1) (by omega) (by omega), am_w_id (x := x + 2) (by omega) (by omega)]
  refine ⟨by omega, by omega, k_Schange hs G.1 G.wc G.pl G.rg G.ho (fun g w f wo p1 r1 => ⟨_, rfl, w, by omega, by omega, ?_⟩)⟩
  have r0 : g.2.2.2 110 = a := (f.c 110 (by decide) (by decide)).trans G.row
  refine k_Mchange hs w r0 G.ho (fun k wk fk e110 => ⟨_, rfl, wk, ?_⟩)
  refine lc_tl rfl (G.deed (f.mono (by simp) (by decide)) wo p1 r1 wk (fk.mono (by decide) (by decide)) e110 (nx_change G.ho _ _) (by omega)) (Z.two f fk) hx hs K
theorem lc_9 (hs : am_sc scr) (G : gI h W ser B a) (Z : szI h n W) (hB : 0 ≤ B ∧ B < 600000) (hx : 0 ≤ x ∧ x + 6 ≤ (scr.1 : Int)) (K : KT scr d Q B n x) : am_R (am_prog scr) (d + 72) f_L_law 489 [some (.inr (.inr (-1000))), some (.inr (.inr (((0) : Nat) : Int))), some (.inr (.inr ((109 : Nat) : Int))), some (.inl (x))] [] h Q := by
  have s1 := hs.1
  refine w_L_law_489 hs G.1 ?_
  rw [am_w_id (x := x + 1) (by omega) (by omega), am_w_id (x := x + 2) (by omega) (by omega)]
  refine ⟨by omega, by omega, k_Sdream hs G.1 G.wc G.pl G.rg G.ho (fun g w f wo p1 r1 => ⟨_, rfl, w, by omega, by omega, ?_⟩)⟩
  have r0 : g.2.2.2 110 = a := (f.c 110 (by decide) (by decide)).trans G.row
  refine k_Mdream hs w r0 G.ho (fun k wk fk e110 => ⟨_, rfl, wk, ?_⟩)
  refine lc_tl rfl (G.deed (f.mono (by simp) (by decide)) wo p1 r1 wk (fk.mono (by decide) (by decide)) e110 (nx_dream G.ho _ _) (by omega)) (Z.two f fk) hx hs K
theorem lc_10 (hs : am_sc scr) (G : gI h W ser B a) (Z : szI h n W) (hB : 0 ≤ B ∧ B < 600000) (hx : 0 ≤ x ∧ x + 6 ≤ (scr.1 : Int)) (K : KT scr d Q B n x) : am_R (am_prog scr) (d + 72) f_L_law 522 [some (.inr (.inr (-1000))), some (.inr (.inr (((0) : Nat) : Int))), some (.inr (.inr ((109 : Nat) : Int))), some (.inl (x))] [] h Q := by
  have s1 := hs.1
  refine w_L_law_522 hs G.1 ?_
  rw [am_w_id (x := x + 1) (by omega) (by omega)]
  refine ⟨by omega, k_Shush hs G.1 G.wc G.pl G.rg G.ho (fun g w f wo p1 r1 => ⟨_, rfl, w, by omega, ?_⟩)⟩
  have r0 : g.2.2.2 110 = a := (f.c 110 (by decide) (by decide)).trans G.row
  refine k_Mhush hs w r0 G.ho (fun k wk fk e110 => ⟨_, rfl, wk, ?_⟩)
  refine lc_tl rfl (G.deed (f.mono (by simp) (by decide)) wo p1 r1 wk (fk.mono (by decide) (by decide)) e110 (nx_hush G.ho _) (by omega)) (Z.two f fk) hx hs K
theorem lc_11 (hs : am_sc scr) (G : gI h W ser B a) (Z : szI h n W) (hB : 0 ≤ B ∧ B < 600000) (hx : 0 ≤ x ∧ x + 6 ≤ (scr.1 : Int)) (K : KT scr d Q B n x) : am_R (am_prog scr) (d + 72) f_L_law 545 [some (.inr (.inr (-1000))), some (.inr (.inr (((0) : Nat) : Int))), some (.inr (.inr ((109 : Nat) : Int))), some (.inl (x))] [] h Q := by
  have s1 := hs.1
  refine w_L_law_545 hs G.1 ?_
  rw [am_w_id (x := x + 1) (by omega) (by omega)]
  refine ⟨by omega, k_Sundo hs G.1 G.wc G.pl G.rg G.ho (fun g w f wo p1 r1 => ⟨_, rfl, w, by omega, ?_⟩)⟩
  have r0 : g.2.2.2 110 = a := (f.c 110 (by decide) (by decide)).trans G.row
  refine k_Mundo hs w r0 G.ho (fun k wk fk e110 => ⟨_, rfl, wk, ?_⟩)
  refine lc_tl rfl (G.deed (f.mono (by simp) (by decide)) wo p1 r1 wk (fk.mono (by decide) (by decide)) e110 (nx_undo G.ho _) (by omega)) (Z.two f fk) hx hs K
theorem lc_14 (hs : am_sc scr) (G : gI h W ser B a) (Z : szI h n W) (hB : 0 ≤ B ∧ B < 600000) (hx : 0 ≤ x ∧ x + 6 ≤ (scr.1 : Int)) (K : KT scr d Q B n x) : am_R (am_prog scr) (d + 72) f_L_law 624 [some (.inr (.inr (-1000))), some (.inr (.inr (((0) : Nat) : Int))), some (.inr (.inr ((109 : Nat) : Int))), some (.inl (x))] [] h Q := by
  have s1 := hs.1
  refine w_L_law_624 hs G.1 ?_
  rw [am_w_id (x := x + 1) (by omega) (by omega), am_w_id (x := x + 2) (by omega) (by omega)]
  refine ⟨by omega, by omega, k_Snight hs G.1 G.wc G.pl G.rg G.ho (by omega) (fun g w f wo p1 r1 => ⟨_, rfl, w, by omega, by omega, ?_⟩)⟩
  have r0 : g.2.2.2 110 = a := (f.c 110 (by decide) (by decide)).trans G.row
  refine k_Mnight hs w r0 G.ho (by omega) (fun k wk fk e110 => ⟨_, rfl, wk, ?_⟩)
  refine lc_tl rfl (G.deed (f) wo p1 r1 wk (fk.mono (by decide) (by decide)) e110 (nx_night G.ho _ _) (by omega)) (Z.two f fk) hx hs K
end LCb
