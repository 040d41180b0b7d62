/-! the law's loop: trays, deeds of a tray -/
def TRL : List Nat := [10, 11, 12, 13, 14, 15, 27, 28, 29, 95, 96, 97, 98, 99, 100, 101, 102]
def MIL : List Nat := [1, 10, 11, 12, 13, 14, 15, 27, 28, 29, 95, 96, 97, 98, 99, 100, 101, 102]
def MIR : List Nat := [112, 114, 115, 130, 131, 132]
theorem TRL_in : ∀ t, t < 4 → 95 + 2 * t ∈ TRL ∧ 95 + 2 * t + 1 ∈ TRL := by decide
abbrev wcX (g : am_H) (W : Wd) : Prop := wc g W
section MIx
variable {h g k : am_H} {W : Wd} {ser n : Nat} {B C : Int} {a : Nat → Int}
theorem tpR.mid (x : tpR h) (q : fr TRL [] h g) (q2 : fr [114, 115, 130, 131, 132] [(109, 0)] g k) : tpR k := by
  have lo : ∀ c, c < 109 → k.2.2.2 c = g.2.2.2 c := fun c hc => q2.c c (by simp; omega) (by simp; omega)
  refine x.of (fun j hj => ?_) ?_ ?_ ?_ ?_ ?_ ?_
  · rw [lo 0 (by omega), q.c 0 (by decide) (by simp)]
  · rw [lo 1 (by omega), q.c 1 (by decide) (by simp)]
  · rw [lo 2 (by omega), q.c 2 (by decide) (by simp)]
  · rw [q2.f 109 5 (by decide) (by decide), q.c 109 (by decide) (by simp)]
  · rw [q2.f 109 13 (by decide) (by decide), q.c 109 (by decide) (by simp)]
  · rw [q2.f 109 14 (by decide) (by decide), q.c 109 (by decide) (by simp)]
  · rw [q2.c 112 (by decide) (by decide), q.c 112 (by decide) (by simp)]
/-- what is told stays; trays and tape change -/
theorem gI.misc (x : gI h W ser B a) (q : fr MIL [(0, 1)] h g) (w1 : wcX g W) (w : wf k) (q2 : fr MIR [(109, 0), (109, 5)] g k) (tr : trR k) (tp : tpR k) : gI k W ser (B + 1000) a := by
  obtain ⟨x1, x2, x3, x4, x5, x6, x7, x8, x9, x10, x11, x12, x13, x14⟩ := x
  have lo : ∀ c, c < 109 → k.2.2.2 c = g.2.2.2 c := fun c hc => q2.c c (by unfold MIR; simp; omega) (by simp; omega)
  have m1 : ∀ z ∈ MIL, z < 103 := by decide
  have m2 : ∀ z ∈ MIR, 112 ≤ z := by decide
  refine ⟨w, w1.fr q2 (by decide) (by decide), (x3.fr q (by decide) (by decide)).fr q2 (by decide) (by decide), ?_, x5.le (by omega), (x6.fr q (by decide) (by decide)).fr q2 (by decide) (by decide), (x7.fr q (by decide) (by decide) (Int.le_refl B)).fr q2 (by decide) (by decide) (by omega), (x8.fr q (by decide) (by decide) (Int.le_refl B)).fr q2 (by decide) (by decide) (by omega), (x9.fr q (by decide) (by decide) (Int.le_refl B)).fr q2 (by decide) (by decide) (by omega), (x10.fr q (by decide) (by decide)).fr q2 (by decide) (by decide), ?_, tr, tp, ?_⟩
  · rw [q2.c 110 (by decide) (by decide), q.c 110 (by decide) (by decide)]; exact x4
  · refine x11.of ?_ ?_ (fun i sr b hi z => (z.fr q (fun x hx => by have := m1 x hx; omega) (by simp; omega)).fr q2 (fun x hx => by have := m2 x hx; omega) (by simp; omega)) (fun _ _ => rfl) (by omega)
    · rw [lo 19 (by omega), q.c 19 (by decide) (by decide)]
    · rw [q2.c 111 (by decide) (by decide), q.c 111 (by decide) (by decide)]
  · have m3 : ∀ z ∈ MIL, z ≠ 21 := by decide
    have m4 : ∀ z ∈ MIR, z < 133 := by decide
    refine x14.of x2 (by rw [lo 0 (by omega), q.f 0 4 (by decide) (by decide)]) (q2.1.trans q.1) (fun d hd => ?_)
    rw [q2.c d (fun z => by have := m2 _ z; have := m4 _ z; omega) (by simp; omega), q.c d (fun z => by have := m1 _ z; have := m3 _ z; omega) (by simp; omega)]
end MIx
section LCc
variable {scr : Nat × (Nat → Int)} {d : Nat} {h : am_H} {Q : Option am_V → am_H → Prop} {W : Wd} {ser n : Nat} {B x : Int} {a : Nat → Int} {k : am_H}
theorem lc_13 (hs : am_sc scr) (G : gI h W ser B a) (Z : szI h n W) (hB : 0 ≤ B ∧ B < 600000) (hx : 0 ≤ x ∧ x + 6 ≤ (scr.1 : Int)) (K : KT scr d Q B n x) : am_R (am_prog scr) (d + 72) f_L_law 601 [some (.inr (.inr (-1000))), some (.inr (.inr (((0) : Nat) : Int))), some (.inr (.inr ((109 : Nat) : Int))), some (.inl (x))] [] h Q := by
  have s1 := hs.1
  refine w_L_law_601 hs G.1 ?_
  rw [am_w_id (x := x + 1) (by omega) (by omega)]
  refine ⟨by omega, k_Sperform (n := nT h (scr.2 (x + 1).toNat)) (num := nmT h (scr.2 (x + 1).toNat)) hs G.1 G.wc G.pl G.rg G.ho (by omega) (tr_c G.tr) (fun g w f wo p1 r1 => ⟨_, rfl, w, by omega, ?_⟩)⟩
  generalize (scr.2 (x + 1).toNat) = t at *
  have r0 : g.2.2.2 110 = a := (f.c 110 (by decide) (by decide)).trans G.row
  have e130 : g.2.2.2 130 = h.2.2.2 130 := f.c 130 (by decide) (by decide)
  have e131 : g.2.2.2 131 = h.2.2.2 131 := f.c 131 (by decide) (by decide)
  have e132 : g.2.2.2 132 = h.2.2.2 132 := f.c 132 (by decide) (by decide)
  have tm : (0 ≤ t ∧ t ≤ 3) → g.2.2.2 130 t.toNat ≠ -1 → trM g t (nT h t) (nmT h t) := by
    intro c1 c2
    have := tr_m (t := t) G.tr rfl rfl c1 (by rw [← e130]; exact c2)
    unfold trM numM at *
    rw [e131, e132]; exact this
  refine k_Mperform (n := nT h t) (num := nmT h t) hs w r0 G.ho (by omega) tm (fun k wk fk e110 => ⟨_, rfl, wk, ?_⟩)
  have eb : (if 0 ≤ t ∧ t ≤ 3 ∧ g.2.2.2 130 t.toNat ≠ -1 then (q_perform a (W.2.2.1 ser) (nmT h t) (nT h t)).2 else a) = (if 0 ≤ t ∧ t ≤ 3 ∧ h.2.2.2 (95 + 2 * t.toNat) 0 = 0 then (q_perform a (W.2.2.1 ser) (nmT h t) (nT h t)).2 else a) := by
    by_cases c : 0 ≤ t ∧ t ≤ 3
    · have i := tr_i (g := g) G.tr e130 c
      by_cases c2 : g.2.2.2 130 t.toNat = -1
      · rw [if_neg (fun z => z.2.2 c2), if_neg (fun z => i.mp z.2.2 c2)]
      · rw [if_pos ⟨c.1, c.2, c2⟩, if_pos ⟨c.1, c.2, i.mpr c2⟩]
    · rw [if_neg (fun z => c ⟨z.1, z.2.1⟩), if_neg (fun z => c ⟨z.1, z.2.1⟩)]
  rw [eb] at e110
  refine lc_tl (tr_ans G.tr e130) (G.deed (f.mono (by simp) (by decide)) wo p1 r1 wk (fk.mono (by decide) (by decide)) e110 ?_ (by omega)) (Z.two f fk) hx hs K
  by_cases c : 0 ≤ t ∧ t ≤ 3 ∧ h.2.2.2 (95 + 2 * t.toNat) 0 = 0
  · rw [if_pos c]
    have := (G.tr t.toNat (by omega)).2.2.1
    exact nx_perform G.ho _ (by unfold nT; omega)
  · rw [if_neg c]; exact nxO.self G.ho
theorem lc_35 (hs : am_sc scr) (G : gI h W ser B a) (Z : szI h n W) (hB : 0 ≤ B ∧ B < 600000) (hx : 0 ≤ x ∧ x + 6 ≤ (scr.1 : Int)) (K : KT scr d Q B n x) : am_R (am_prog scr) (d + 72) f_L_law 1139 [some (.inr (.inr (-1000))), some (.inr (.inr (((0) : Nat) : Int))), some (.inr (.inr ((109 : Nat) : Int))), some (.inl (x))] [] h Q := by
  have s1 := hs.1
  refine w_L_law_1139 hs G.1 ?_
  rw [am_w_id (x := x + 1) (by omega) (by omega), am_w_id (x := x + 2) (by omega) (by omega), am_w_id (x := x + 3) (by omega) (by omega)]
  refine ⟨by omega, by omega, by omega, k_Snumbers hs G.1 (fun g w f e => ⟨_, rfl, w, by omega, by omega, by omega, ?_⟩)⟩
  generalize (scr.2 (x + 1).toNat) = t at *
  generalize (scr.2 (x + 2).toNat) = s at *
  generalize (scr.2 (x + 3).toNat) = m at *
  have f' : fr TRL [] h g := by
    by_cases c : (0 ≤ t ∧ t ≤ 3) ∧ (0 ≤ s ∧ s ≤ 3) ∧ (0 ≤ m ∧ m ≤ 40)
    · rw [if_pos c] at f
      refine f.mono (fun z hz => ?_) (by simp)
      have := TRL_in t.toNat (by omega)
      simp only [List.mem_cons, List.not_mem_nil, or_false] at hz
      rcases hz with rfl | rfl
      · exact this.1
      · exact this.2
    · rw [if_neg c] at f
      exact f.mono (by simp) (by simp)
  have wo : wc g W := by
    by_cases c : (0 ≤ t ∧ t ≤ 3) ∧ (0 ≤ s ∧ s ≤ 3) ∧ (0 ≤ m ∧ m ≤ 40)
    · rw [if_pos c] at f
      exact G.wc.fr f (fun z hz => by simp only [List.mem_cons, List.not_mem_nil, or_false] at hz; omega) (by simp)
    · rw [if_neg c] at f
      exact G.wc.fr f (by simp) (by simp)
  refine k_Mnumbers hs w (fun k wk fk e2 e3 => ⟨_, rfl, wk, ?_⟩)
  refine lc_tl rfl (G.misc (f'.mono (by decide) (by simp)) wo wk (fk.mono (by decide) (by decide)) ?_ (G.tp.mid f' (fk.mono (by decide) (by decide)))) (Z.two f fk) hx hs K
  by_cases c : (0 ≤ t ∧ t ≤ 3) ∧ (0 ≤ s ∧ s ≤ 3) ∧ (0 ≤ m ∧ m ≤ 40)
  · obtain ⟨a1, a2, a3, a4⟩ := e c
    obtain ⟨b1, b2, b3⟩ := e2 c
    rw [if_pos c] at f
    have lo : ∀ c, c < 109 → k.2.2.2 c = g.2.2.2 c := fun c hc => fk.c c (by simp; omega) (by simp; omega)
    have h130 : ∀ c, 109 < c → g.2.2.2 c = h.2.2.2 c := fun c hc => f.c c (by simp; omega) (by simp)
    intro u hu
    rw [b1, b2, lo (95 + 2 * u) (by omega), lo (95 + 2 * u + 1) (by omega), h130 130 (by omega), h130 131 (by omega)]
    by_cases cu : u = t.toNat
    · subst cu
      rw [if_pos rfl, if_pos rfl, a1, a2, a3]
      refine ⟨by omega, by omega, by omega, fun _ => ⟨rfl, rfl, fun i hi => ?_⟩⟩
      rw [a4 i (by omega), b3, if_pos (by omega)]
    · rw [if_neg cu, if_neg cu]
      have e5 : g.2.2.2 (95 + 2 * u) = h.2.2.2 (95 + 2 * u) := f.c _ (by simp; omega) (by simp)
      have e6 : g.2.2.2 (95 + 2 * u + 1) = h.2.2.2 (95 + 2 * u + 1) := f.c _ (by simp; omega) (by simp)
      rw [e5, e6]
      obtain ⟨y1, y2, y3, y4⟩ := G.tr u hu
      refine ⟨y1, y2, y3, fun z => ⟨(y4 z).1, (y4 z).2.1, fun i hi => ?_⟩⟩
      rw [b3, if_neg (by omega), h130 132 (by omega)]
      exact (y4 z).2.2 i hi
  · have f3 := e3 c
    rw [if_neg c] at f
    refine G.tr.of (fun u hu => ⟨?_, ?_⟩) ?_ ?_ ?_
    · rw [f3.c _ (by simp) (by simp; omega), f.c _ (by simp) (by simp)]
    · rw [f3.c _ (by simp) (by simp; omega), f.c _ (by simp) (by simp)]
    · rw [f3.c 130 (by simp) (by simp), f.c 130 (by simp) (by simp)]
    · rw [f3.c 131 (by simp) (by simp), f.c 131 (by simp) (by simp)]
    · rw [f3.c 132 (by simp) (by simp), f.c 132 (by simp) (by simp)]
theorem lc_36 (hs : am_sc scr) (G : gI h W ser B a) (Z : szI h n W) (hB : 0 ≤ B ∧ B < 600000) (hx : 0 ≤ x ∧ x + 6 ≤ (scr.1 : Int)) (K : KT scr d Q B n x) : am_R (am_prog scr) (d + 72) f_L_law 1182 [some (.inr (.inr (-1000))), some (.inr (.inr (((0) : Nat) : Int))), some (.inr (.inr ((109 : Nat) : Int))), some (.inl (x))] [] h Q := by
  have s1 := hs.1
  refine w_L_law_1182 hs G.1 ?_
  rw [am_w_id (x := x + 1) (by omega) (by omega), am_w_id (x := x + 2) (by omega) (by omega), am_w_id (x := x + 3) (by omega) (by omega), am_w_id (x := x + 4) (by omega) (by omega)]
  have hn1 : (0 ≤ (scr.2 (x + 1).toNat) ∧ (scr.2 (x + 1).toNat) ≤ 3) → 0 ≤ h.2.2.2 (95 + 2 * (scr.2 (x + 1).toNat).toNat) 2 ∧ h.2.2.2 (95 + 2 * (scr.2 (x + 1).toNat).toNat) 2 ≤ 40 := fun c => (G.tr (scr.2 (x + 1).toNat).toNat (by omega)).2.1
  refine ⟨by omega, by omega, by omega, by omega, k_Swrite hs G.1 hn1 (fun g w f e => ⟨_, rfl, w, by omega, by omega, by omega, by omega, ?_⟩)⟩
  generalize am_lor (am_lshl (scr.2 (x + 3).toNat) 32) (am_land (scr.2 (x + 4).toNat) 4294967295) = v at *
  generalize (scr.2 (x + 1).toNat) = t at *
  generalize (scr.2 (x + 2).toNat) = i at *
  have f' : fr TRL [] h g := by
    by_cases c : 0 ≤ t ∧ t ≤ 3
    · rw [if_pos c] at f
      refine f.mono (fun z hz => ?_) (by simp)
      have := TRL_in t.toNat (by omega)
      simp only [List.mem_cons, List.not_mem_nil, or_false] at hz
      rw [hz]; exact this.2
    · rw [if_neg c] at f
      exact f.mono (by simp) (by simp)
  have e130 : g.2.2.2 130 = h.2.2.2 130 := f'.c 130 (by decide) (by simp)
  have e131 : g.2.2.2 131 = h.2.2.2 131 := f'.c 131 (by decide) (by simp)
  have e132 : g.2.2.2 132 = h.2.2.2 132 := f'.c 132 (by decide) (by simp)
  have hn2 : (0 ≤ t ∧ t ≤ 3) → 0 ≤ g.2.2.2 131 t.toNat ∧ g.2.2.2 131 t.toNat ≤ 40 := fun c => by rw [e131]; exact (G.tr t.toNat (by omega)).2.2.1
  have wo : wc g W := by
    by_cases c : 0 ≤ t ∧ t ≤ 3
    · rw [if_pos c] at f
      exact G.wc.fr f (fun z hz => by simp only [List.mem_cons, List.not_mem_nil, or_false] at hz; omega) (by simp)
    · rw [if_neg c] at f
      exact G.wc.fr f (by simp) (by simp)
  refine k_Mwrite hs w hn2 (fun k wk fk e2 => ⟨_, rfl, wk, ?_⟩)
  rw [e130, e131, e132] at e2
  rw [e130, e131]
  have ans : (if 0 ≤ t ∧ t ≤ 3 then (if h.2.2.2 (95 + 2 * t.toNat) 0 = 0 then (if 0 ≤ i ∧ i < h.2.2.2 (95 + 2 * t.toNat) 2 then cutS v (h.2.2.2 (95 + 2 * t.toNat) 1) else -7) else -6) else -2) = (if 0 ≤ t ∧ t ≤ 3 then (if h.2.2.2 130 t.toNat = -1 then -6 else if 0 ≤ i ∧ i < h.2.2.2 131 t.toNat then cutS v (h.2.2.2 130 t.toNat) else -7) else -2) := by
    by_cases c : 0 ≤ t ∧ t ≤ 3
    · rw [if_pos c, if_pos c]
      obtain ⟨y1, y2, y3, y4⟩ := G.tr t.toNat (by omega)
      by_cases c2 : h.2.2.2 130 t.toNat = -1
      · rw [if_pos c2, if_neg (fun z => y1.mp z c2)]
      · rw [if_neg c2, if_pos (y1.mpr c2), (y4 c2).1, (y4 c2).2.1]
    · rw [if_neg c, if_neg c]
  refine lc_tl ans (G.misc (f'.mono (by decide) (by simp)) wo wk (fk.mono (by decide) (by decide)) ?_ (G.tp.mid f' (fk.mono (by decide) (by decide)))) (Z.two f fk) hx hs K
  have lo : ∀ c, c < 109 → k.2.2.2 c = g.2.2.2 c := fun c hc => fk.c c (by simp; omega) (by simp; omega)
  intro u hu
  have k130 : k.2.2.2 130 = h.2.2.2 130 := (fk.c 130 (by decide) (by decide)).trans e130
  have k131 : k.2.2.2 131 = h.2.2.2 131 := (fk.c 131 (by decide) (by decide)).trans e131
  have kT : k.2.2.2 (95 + 2 * u) = h.2.2.2 (95 + 2 * u) := by
    rw [lo _ (by omega)]
    by_cases c : 0 ≤ t ∧ t ≤ 3
    · rw [if_pos c] at f
      exact f.c _ (by simp; omega) (by simp)
    · rw [if_neg c] at f
      exact f.c _ (by simp) (by simp)
  rw [k130, k131, kT, lo (95 + 2 * u + 1) (by omega)]
  obtain ⟨y1, y2, y3, y4⟩ := G.tr u hu
  refine ⟨y1, y2, y3, fun z => ⟨(y4 z).1, (y4 z).2.1, fun j hj => ?_⟩⟩
  have old := (y4 z).2.2 j hj
  rw [e2]
  by_cases cu : (0 ≤ t ∧ t ≤ 3) ∧ u = t.toNat
  · obtain ⟨c, rfl⟩ := cu
    rw [e, (y4 z).1, (y4 z).2.1]
    by_cases c3 : (0 ≤ i ∧ i < h.2.2.2 131 t.toNat) ∧ j = i.toNat
    · rw [if_pos ⟨⟨c, y1.mpr z, c3.1⟩, c3.2⟩, if_pos ⟨⟨c, z, c3.1⟩, by omega⟩]
    · rw [if_neg (fun q => c3 ⟨q.1.2.2, q.2⟩), if_neg (fun q => c3 ⟨q.1.2.2, by omega⟩)]
      exact old
  · have eT : g.2.2.2 (95 + 2 * u + 1) j = h.2.2.2 (95 + 2 * u + 1) j := by
      by_cases c : 0 ≤ t ∧ t ≤ 3
      · rw [if_pos c] at f
        have : u ≠ t.toNat := fun q => cu ⟨c, q⟩
        rw [f.c _ (by simp; omega) (by simp)]
      · rw [if_neg c] at f
        rw [f.c _ (by simp) (by simp)]
    rw [eT, if_neg (fun q => by
      have h1 := q.1.1
      have h2 := q.1.2.2
      have h3 := (G.tr t.toNat (by omega)).2.2.1
      have : u ≠ t.toNat := fun q => cu ⟨h1, q⟩
      have := q.2
      omega)]
    exact old
theorem lc_37 (hs : am_sc scr) (G : gI h W ser B a) (Z : szI h n W) (hB : 0 ≤ B ∧ B < 600000) (hx : 0 ≤ x ∧ x + 6 ≤ (scr.1 : Int)) (K : KT scr d Q B n x) : am_R (am_prog scr) (d + 72) f_L_law 1256 [some (.inr (.inr (-1000))), some (.inr (.inr (((0) : Nat) : Int))), some (.inr (.inr ((109 : Nat) : Int))), some (.inl (x))] [] h Q := by
  have s1 := hs.1
  refine w_L_law_1256 hs G.1 ?_
  rw [am_w_id (x := x + 1) (by omega) (by omega), am_w_id (x := x + 2) (by omega) (by omega)]
  have ht : (0 ≤ (scr.2 (x + 1).toNat) ∧ (scr.2 (x + 1).toNat) ≤ 3) → h.2.2.2 (95 + 2 * (scr.2 (x + 1).toNat).toNat) 0 = 0 → nT h (scr.2 (x + 1).toNat) ≤ 40 ∧ h.2.2.2 (95 + 2 * (scr.2 (x + 1).toNat).toNat) 2 = (nT h (scr.2 (x + 1).toNat) : Int) := fun c c2 => ⟨(tr_c G.tr c c2).1, (tr_c G.tr c c2).2.1⟩
  refine ⟨by omega, by omega, k_Slists (n := nT h (scr.2 (x + 1).toNat)) hs G.1 G.wc G.pl G.ho.1 (by omega) ht (fun g w f wo e => ⟨_, rfl, w, by omega, by omega, ?_⟩)⟩
  generalize (scr.2 (x + 1).toNat) = t at *
  generalize (scr.2 (x + 2).toNat) = v at *
  have f' : fr TRL [] h g := by
    by_cases c : 0 ≤ t ∧ t ≤ 3
    · rw [if_pos c] at f
      refine f.mono (fun z hz => ?_) (by simp)
      have := TRL_in t.toNat (by omega)
      simp only [List.mem_cons, List.not_mem_nil, or_false] at hz
      rcases hz with rfl | rfl | rfl | rfl | rfl | rfl | rfl | rfl | rfl | rfl
      all_goals first | exact this.2 | decide
    · rw [if_neg c] at f
      exact f.mono (by simp) (by simp)
  have e130 : g.2.2.2 130 = h.2.2.2 130 := f'.c 130 (by decide) (by simp)
  have e131 : g.2.2.2 131 = h.2.2.2 131 := f'.c 131 (by decide) (by simp)
  have e132 : g.2.2.2 132 = h.2.2.2 132 := f'.c 132 (by decide) (by simp)
  have r0 : g.2.2.2 110 = a := (f'.c 110 (by decide) (by simp)).trans G.row
  have hm : (0 ≤ t ∧ t ≤ 3) → g.2.2.2 130 t.toNat ≠ -1 → nT h t ≤ 40 ∧ g.2.2.2 131 t.toNat = (nT h t : Int) := fun c c2 => by
    have := (G.tr t.toNat (by omega)).2.2.1
    rw [e131]; unfold nT; omega
  refine k_Mlists (n := nT h t) hs w r0 G.ho.1 hm (fun k wk fk e2 => ⟨_, rfl, wk, ?_⟩)
  rw [e130, e132] at e2
  have ans : (if (0 ≤ t ∧ t ≤ 3) ∧ (0 ≤ v ∧ v ≤ 1) then (if h.2.2.2 (95 + 2 * t.toNat) 0 = 0 then (lisN a (W.2.2.1 ser) (nT h t) 0 : Int) else -6) else -2) = (if (0 ≤ t ∧ t ≤ 3) ∧ (0 ≤ v ∧ v ≤ 1) then (if g.2.2.2 130 t.toNat = -1 then -6 else (lisN a (W.2.2.1 ser) (nT h t) 0 : Int)) else -2) := by
    by_cases c : (0 ≤ t ∧ t ≤ 3) ∧ (0 ≤ v ∧ v ≤ 1)
    · rw [if_pos c, if_pos c]
      have i := tr_i (g := g) G.tr e130 c.1
      by_cases c2 : g.2.2.2 130 t.toNat = -1
      · rw [if_pos c2, if_neg (fun z => i.mp z c2)]
      · rw [if_neg c2, if_pos (i.mpr c2)]
    · rw [if_neg c, if_neg c]
  refine lc_tl ans (G.misc (f'.mono (by decide) (by simp)) wo wk (fk.mono (by decide) (by decide)) ?_ (G.tp.mid f' (fk.mono (by decide) (by decide)))) (Z.two f fk) hx hs K
  have lo : ∀ c, c < 109 → k.2.2.2 c = g.2.2.2 c := fun c hc => fk.c c (by simp; omega) (by simp; omega)
  have ln := (lisN_b (a := a) (f := W.2.2.1 ser) (nT h t) 0).2
  intro u hu
  have k130 : k.2.2.2 130 = h.2.2.2 130 := (fk.c 130 (by decide) (by decide)).trans e130
  have k131 : k.2.2.2 131 = h.2.2.2 131 := (fk.c 131 (by decide) (by decide)).trans e131
  have kT : k.2.2.2 (95 + 2 * u) = h.2.2.2 (95 + 2 * u) := by
    rw [lo _ (by omega)]
    by_cases c : 0 ≤ t ∧ t ≤ 3
    · rw [if_pos c] at f
      exact f.c _ (by simp; omega) (by simp)
    · rw [if_neg c] at f
      exact f.c _ (by simp) (by simp)
  rw [k130, k131, kT, lo (95 + 2 * u + 1) (by omega)]
  obtain ⟨y1, y2, y3, y4⟩ := G.tr u hu
  refine ⟨y1, y2, y3, fun z => ⟨(y4 z).1, (y4 z).2.1, fun j hj => ?_⟩⟩
  have old := (y4 z).2.2 j hj
  rw [e2]
  by_cases cu : (0 ≤ t ∧ t ≤ 3) ∧ u = t.toNat
  · obtain ⟨c, rfl⟩ := cu
    rw [e]
    by_cases c3 : (0 ≤ v ∧ v ≤ 1) ∧ j < lisN a (W.2.2.1 ser) (nT h t) 0
    · rw [if_pos ⟨⟨c, c3.1, y1.mpr z⟩, c3.2⟩, if_pos ⟨⟨c, c3.1, z⟩, by omega, by omega⟩, show 40 * t.toNat + j - 40 * t.toNat = j by omega]
    · rw [if_neg (fun q => c3 ⟨q.1.2.1, q.2⟩), if_neg (fun q => c3 ⟨q.1.2.1, by omega⟩)]
      exact old
  · have eT : g.2.2.2 (95 + 2 * u + 1) j = h.2.2.2 (95 + 2 * u + 1) j := by
      by_cases c : 0 ≤ t ∧ t ≤ 3
      · rw [if_pos c] at f
        have : u ≠ t.toNat := fun q => cu ⟨c, q⟩
        rw [f.c _ (by simp; omega) (by simp)]
      · rw [if_neg c] at f
        rw [f.c _ (by simp) (by simp)]
    rw [eT, if_neg (fun q => by
      have h1 := q.1.1
      have h3 := (G.tr t.toNat (by omega)).2.2.1
      have : u ≠ t.toNat := fun q => cu ⟨h1, q⟩
      have := q.2
      have nb : nT h t ≤ 40 := by unfold nT; omega
      omega)]
    exact old
end LCc
