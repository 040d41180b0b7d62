/-! the law's loop: images, the tape -/
section IMx
variable {h g k : am_H} {W : Wd} {ser n : Nat} {B C : Int} {a b : Nat → Int} {f : Nat → (Nat → Int) → Int}
theorem hok.congr (x : hok a f B) (e : ∀ j, j < 1112 → b j = a j) : hok b f B := by
  obtain ⟨x1, x2, x3⟩ := x
  refine ⟨x1.congr (fun j hj => e j (by omega)), by rw [e 30 (by omega)]; exact x2, fun i hi => ?_⟩
  rw [e 30 (by omega)] at hi
  refine (x3 i hi).congr (fun j hj => ?_)
  unfold hist
  by_cases c : 12 ≤ j ∧ j < 30
  · rw [if_pos c, if_pos c, e _ (by omega)]
  · rw [if_neg c, if_neg c]
    by_cases c2 : 30 ≤ j ∧ j < 211
    · rw [if_pos c2, if_pos c2]
    · rw [if_neg c2, if_neg c2, e j (by omega)]
end IMx
section LCd
variable {scr : Nat × (Nat → Int)} {d : Nat} {h : am_H} {Q : Option am_V → am_H → Prop} {W : Wd} {ser n : Nat} {B x : Int} {a : Nat → Int} {k : am_H}
theorem lc_38 (hs : am_sc scr) (G : gI h W ser B a) (Z : szI h n W) (hB : 0 ≤ B ∧ B < 600000) (hx : 0 ≤ x ∧ x + 6 ≤ (scr.1 : Int)) (K : KT scr d Q B n x) : am_R (am_prog scr) (d + 72) f_L_law 1289 [some (.inr (.inr (-1000))), some (.inr (.inr (((0) : Nat) : Int))), some (.inr (.inr ((109 : Nat) : Int))), some (.inl (x))] [] h Q := by
  have s1 := hs.1
  refine w_L_law_1289 hs G.1 ?_
  rw [am_w_id (x := x + 1) (by omega) (by omega)]
  refine ⟨by omega, k_Simage hs G.1 G.pl G.ho.1 (fun g w f e => ⟨_, rfl, w, by omega, ?_⟩)⟩
  generalize scr.2 (x + 1).toNat = i at *
  by_cases c : 0 ≤ i ∧ i ≤ 1
  · rw [if_pos c] at f
    obtain ⟨p1, e19⟩ := e c
    have hi : ∀ c, 109 ≤ c → g.2.2.2 c = h.2.2.2 c := fun c hc => f.c c (by simp; omega) (by simp)
    have r0 : g.2.2.2 110 = a := (hi 110 (by omega)).trans G.row
    refine k_Mimage hs w r0 (fun k wk fk e2 _ => ⟨_, rfl, wk, lc_tl rfl (W' := W) (ser' := ser) (a' := imsA a i.toNat) ?_ (Z.two f fk) hx hs K⟩)
    obtain ⟨a1, a2⟩ := e2 c
    obtain ⟨x1, x2, x3, x4, x5, x6, x7, x8, x9, x10, x11, x12, x13, x14⟩ := G
    have m1 : ∀ z ∈ ([19, 103 + 3 * i.toNat, 103 + 3 * i.toNat + 1, 103 + 3 * i.toNat + 2] : List Nat), z = 19 ∨ (103 ≤ z ∧ z ≤ 108) := fun z hz => by simp only [List.mem_cons, List.not_mem_nil, or_false] at hz; omega
    have lo : ∀ c, c < 109 → k.2.2.2 c = g.2.2.2 c := fun c hc => fk.c c (by simp; omega) (by simp; omega)
    have same : ∀ c, c < 103 → c ≠ 19 → k.2.2.2 c = h.2.2.2 c := fun c h1 h2 => (lo c (by omega)).trans (f.c c (fun z => by have := m1 _ z; omega) (by simp))
    have er : ∀ j, j < 1112 → imsA a i.toNat j = a j := fun j hj => by unfold imsA; rw [if_neg (by omega)]
    have fs : ∀ p ser b, p + 2 < 103 → (p + 2 < 19 ∨ 19 < p) → plW h W p ser b → plW k W p ser b := fun p ser b h1 h2 z => (z.fr f (fun x hx => by have := m1 x hx; omega) (by simp)).fr fk (fun x hx => by simp only [List.mem_cons, List.not_mem_nil, or_false] at hx; omega) (by simp; omega)
    refine ⟨wk, (x2.fr f (fun x hx => by have := m1 x hx; omega) (by simp)).fr fk (by decide) (by decide), (fs 24 ser a (by omega) (by omega) x3).row (fun j hj => er j (by omega)), a1, (x5.le (by omega)).congr er, ?_, (x7.fr f (fun x hx => by have := m1 x hx; omega) (by simp) (Int.le_refl B)).fr fk (by decide) (by decide) (by omega), (x8.fr f (fun x hx => by have := m1 x hx; omega) (by simp) (Int.le_refl B)).fr fk (by decide) (by decide) (by omega), (x9.fr f (fun x hx => by have := m1 x hx; omega) (by simp) (Int.le_refl B)).fr fk (by decide) (by decide) (by omega), (x10.fr f (fun x hx => by have := m1 x hx; omega) (by simp)).fr fk (by decide) (by decide), ?_, ?_, ?_, ?_⟩
    · exact (((x6.fr f (fun x hx => by have := m1 x hx; omega) (by simp)).fr fk (by decide) (by decide))).row x5.2.1.2 (fun j hj => er j (by omega))
    · intro u hu
      obtain ⟨y1, y2⟩ := x11 u hu
      rw [lo 19 (by omega), e19, a2, hi 111 (by omega)]
      by_cases cu : u = i.toNat
      · subst cu
        rw [if_pos rfl, if_pos rfl]
        have ej : ∀ j, j < 1112 → imgA (imsA a i.toNat) i.toNat j = a j := fun j hj => by
          unfold imgA imsA
          rw [if_pos (by omega), show 1112 * (i.toNat + 1) + j - 1112 * (i.toNat + 1) = j by omega]
        refine ⟨rfl, Or.inr ⟨ser, ?_, (x5.1.le (by omega)).congr (fun j hj => ej j (by omega))⟩⟩
        refine plW.row ?_ (fun j hj => ej j (by omega))
        exact p1.fr fk (fun x hx => by simp only [List.mem_cons, List.not_mem_nil, or_false] at hx; omega) (by simp; omega)
      · rw [if_neg cu, if_neg cu]
        have ej : ∀ j, j < 1112 → imgA (imsA a i.toNat) u j = imgA a u j := fun j hj => by
          unfold imgA imsA
          rw [if_neg (by omega)]
        refine ⟨y1, ?_⟩
        rcases y2 with y2 | ⟨sr, z1, z2⟩
        · exact Or.inl y2
        · refine Or.inr ⟨sr, ?_, (z2.le (by omega)).congr (fun j hj => ej j (by omega))⟩
          refine plW.row ?_ (fun j hj => ej j (by omega))
          exact (z1.fr f (fun x hx => by simp only [List.mem_cons, List.not_mem_nil, or_false] at hx; omega) (by simp)).fr fk (fun x hx => by simp only [List.mem_cons, List.not_mem_nil, or_false] at hx; omega) (by simp; omega)
    · exact x12.of (fun t ht => ⟨same _ (by omega) (by omega), same _ (by omega) (by omega)⟩) ((fk.c 130 (by decide) (by decide)).trans (hi 130 (by omega))) ((fk.c 131 (by decide) (by decide)).trans (hi 131 (by omega))) ((fk.c 132 (by decide) (by decide)).trans (hi 132 (by omega)))
    · exact x13.of (fun j hj => by rw [same 0 (by omega) (by omega)]) (same 1 (by omega) (by omega)) (by rw [same 2 (by omega) (by omega)]) ((fk.f 109 5 (by decide) (by decide)).trans (by rw [hi 109 (by omega)])) ((fk.f 109 13 (by decide) (by decide)).trans (by rw [hi 109 (by omega)])) ((fk.f 109 14 (by decide) (by decide)).trans (by rw [hi 109 (by omega)])) ((fk.c 112 (by decide) (by decide)).trans (hi 112 (by omega)))
    · refine x14.of x2 (by rw [same 0 (by omega) (by omega)]) (fk.1.trans f.1) (fun d hd => ?_)
      rcases hd with hd | rfl
      · rw [fk.c d (by simp; omega) (by simp; omega)]; exact hi d (by omega)
      · exact same 21 (by omega) (by omega)
  · rw [if_neg c] at f
    have r0 : g.2.2.2 110 = a := (f.c 110 (by simp) (by simp)).trans G.row
    refine k_Mimage hs w r0 (fun k wk fk _ e3 => ⟨_, rfl, wk, ?_⟩)
    have f3 := e3 c
    have G2 := G.up.cl (C := B + 1000) w (f.mono (by simp) (by simp)) (G.wc.fr f (by simp) (by simp)) (G.up.gr.fr f (by simp) (by simp) (Int.le_refl _)) (G.up.pc.fr f (by simp) (by simp) (Int.le_refl _)) (G.up.sn.fr f (by simp) (by simp) (Int.le_refl _)) (G.tl.fr f (by simp) (by simp)) (Int.le_refl _)
    exact lc_tl rfl (G2.rf wk (f3.mono (by simp) (by decide)) ((f3.c 110 (by simp) (by simp)).trans r0)) (Z.two f fk) hx hs K
theorem lc_39 (hs : am_sc scr) (G : gI h W ser B a) (Z : szI h n W) (hB : 0 ≤ B ∧ B < 600000) (hx : 0 ≤ x ∧ x + 6 ≤ (scr.1 : Int)) (K : KT scr d Q B n x) : am_R (am_prog scr) (d + 72) f_L_law 1312 [some (.inr (.inr (-1000))), some (.inr (.inr (((0) : Nat) : Int))), some (.inr (.inr ((109 : Nat) : Int))), some (.inl (x))] [] h Q := by
  have s1 := hs.1
  refine w_L_law_1312 hs G.1 ?_
  rw [am_w_id (x := x + 1) (by omega) (by omega)]
  refine ⟨by omega, ?_⟩
  generalize scr.2 (x + 1).toNat = i at *
  -- which house the image is of
  obtain ⟨sr, hsr⟩ : ∃ sr, (0 ≤ i ∧ i ≤ 1) → h.2.2.2 19 i.toNat ≠ 0 → plW h W (103 + 3 * i.toNat) sr (imgA a i.toNat) ∧ rok (imgA a i.toNat) (W.2.2.1 sr) B := by
    by_cases c : (0 ≤ i ∧ i ≤ 1) ∧ h.2.2.2 19 i.toNat ≠ 0
    · obtain ⟨y1, y2⟩ := G.im i.toNat (by omega)
      rcases y2 with y2 | ⟨sr, z1, z2⟩
      · exact absurd y2 c.2
      · exact ⟨sr, fun _ _ => ⟨z1, z2⟩⟩
    · exact ⟨0, fun c1 c2 => absurd ⟨c1, c2⟩ c⟩
  refine k_Srestore (sr := sr) (b := imgA a i.toNat) (B := B) hs G.1 hsr (fun g w f e => ⟨_, rfl, w, by omega, ?_⟩)
  by_cases c : (0 ≤ i ∧ i ≤ 1) ∧ h.2.2.2 19 i.toNat ≠ 0
  · rw [if_pos c, if_pos c] at f
    obtain ⟨p1, e63⟩ := e c
    obtain ⟨q1, q2⟩ := hsr c.1 c.2
    have hi : ∀ c, 95 ≤ c → g.2.2.2 c = h.2.2.2 c := fun c hc => f.c c (by simp; omega) (by simp; omega)
    have r0 : g.2.2.2 110 = a := (hi 110 (by omega)).trans G.row
    refine k_Mrestore hs w r0 (fun k wk fk e2 => ⟨_, rfl, wk, lc_tl ?_ (W' := W) (ser' := sr) (a' := resA a i.toNat) ?_ (Z.two f fk) hx hs K⟩)
    · rw [hi 111 (by omega), (G.im i.toNat (by omega)).1]
    · rw [hi 111 (by omega), ← (G.im i.toNat (by omega)).1, if_pos c] at e2
      obtain ⟨x1, x2, x3, x4, x5, x6, x7, x8, x9, x10, x11, x12, x13, x14⟩ := G
      have lo : ∀ c, c < 109 → k.2.2.2 c = g.2.2.2 c := fun c hc => fk.c c (by simp; omega) (by simp; omega)
      have e30 : resA a i.toNat 30 = 0 := by unfold resA; rw [if_pos rfl]
      have er : ∀ j, j < 1112 → j ≠ 30 → resA a i.toNat j = imgA a i.toNat j := fun j h1 h2 => by unfold resA; rw [if_neg h2, if_pos h1]
      have eh : ∀ j, 1112 ≤ j → resA a i.toNat j = a j := fun j h1 => by unfold resA; rw [if_neg (by omega), if_neg (by omega)]
      have gl : ∀ c, c ≠ 24 → c ≠ 25 → c ≠ 26 → c ≠ 63 → c < 109 → k.2.2.2 c = h.2.2.2 c := fun c h1 h2 h3 h4 h5 => (lo c h5).trans (f.c c (by simp; omega) (by simp; omega))
      refine ⟨wk, (x2.fr f (by decide) (by decide)).fr fk (by decide) (by decide), (p1.fr fk (by decide) (by decide)).row (fun j hj => er j (by omega) (by omega)), e2, ⟨(q2.le (by omega)).congr (fun j hj => er j (by omega) (by omega)), by rw [e30]; omega, fun u hu => by rw [e30] at hu; omega⟩, ⟨?_, ?_, fun u hu => by rw [e30] at hu; omega⟩, (x7.fr f (by decide) (by decide) (Int.le_refl B)).fr fk (by decide) (by decide) (by omega), (x8.fr f (by decide) (by decide) (Int.le_refl B)).fr fk (by decide) (by decide) (by omega), (x9.fr f (by decide) (by decide) (Int.le_refl B)).fr fk (by decide) (by decide) (by omega), (x10.fr f (by decide) (by decide)).fr fk (by decide) (by decide), ?_, ?_, ?_, ?_⟩
      · rw [lo 63 (by omega), f.f 63 1 (by decide) (by decide)]; exact x6.1
      · rw [lo 63 (by omega), e63, e30]
      · refine x11.of (gl 19 (by omega) (by omega) (by omega) (by omega) (by omega)) ((fk.c 111 (by decide) (by decide)).trans (hi 111 (by omega))) (fun u sr b hu z => ?_) eh (by omega)
        exact (z.fr f (fun x hx => by simp only [List.mem_cons, List.not_mem_nil, or_false] at hx; omega) (by simp; omega)).fr fk (fun x hx => by simp only [List.mem_cons, List.not_mem_nil, or_false] at hx; omega) (by simp; omega)
      · exact x12.of (fun t ht => ⟨gl _ (by omega) (by omega) (by omega) (by omega) (by omega), gl _ (by omega) (by omega) (by omega) (by omega) (by omega)⟩) ((fk.c 130 (by decide) (by decide)).trans (hi 130 (by omega))) ((fk.c 131 (by decide) (by decide)).trans (hi 131 (by omega))) ((fk.c 132 (by decide) (by decide)).trans (hi 132 (by omega)))
      · exact x13.of (fun j hj => by rw [gl 0 (by omega) (by omega) (by omega) (by omega) (by omega)]) (gl 1 (by omega) (by omega) (by omega) (by omega) (by omega)) (by rw [gl 2 (by omega) (by omega) (by omega) (by omega) (by omega)]) ((fk.f 109 5 (by decide) (by decide)).trans (by rw [hi 109 (by omega)])) ((fk.f 109 13 (by decide) (by decide)).trans (by rw [hi 109 (by omega)])) ((fk.f 109 14 (by decide) (by decide)).trans (by rw [hi 109 (by omega)])) ((fk.c 112 (by decide) (by decide)).trans (hi 112 (by omega)))
      · refine x14.of x2 (by rw [gl 0 (by omega) (by omega) (by omega) (by omega) (by omega)]) (fk.1.trans f.1) (fun d hd => ?_)
        rcases hd with hd | rfl
        · rw [fk.c d (by simp; omega) (by simp; omega)]; exact hi d (by omega)
        · exact gl 21 (by omega) (by omega) (by omega) (by omega) (by omega)
  · rw [if_neg c, if_neg c] at f
    have r0 : g.2.2.2 110 = a := (f.c 110 (by simp) (by simp)).trans G.row
    have e111 : g.2.2.2 111 = h.2.2.2 111 := f.c 111 (by simp) (by simp)
    refine k_Mrestore hs w r0 (fun k wk fk e2 => ⟨_, rfl, wk, ?_⟩)
    have c' : ¬ ((0 ≤ i ∧ i ≤ 1) ∧ g.2.2.2 111 i.toNat ≠ 0) := fun z => c ⟨z.1, by rw [(G.im i.toNat (by omega)).1, ← e111]; exact z.2⟩
    rw [if_neg c'] at e2
    have G2 := G.up.cl (C := B + 1000) w (f.mono (by simp) (by simp)) (G.wc.fr f (by simp) (by simp)) (G.up.gr.fr f (by simp) (by simp) (Int.le_refl _)) (G.up.pc.fr f (by simp) (by simp) (Int.le_refl _)) (G.up.sn.fr f (by simp) (by simp) (Int.le_refl _)) (G.tl.fr f (by simp) (by simp)) (Int.le_refl _)
    refine lc_tl ?_ (G2.rf wk (fk.mono (by decide) (by decide)) e2) (Z.two f fk) hx hs K
    by_cases c2 : 0 ≤ i ∧ i ≤ 1
    · rw [if_pos c2, if_pos c2, e111, ← (G.im i.toNat (by omega)).1]
    · rw [if_neg c2, if_neg c2]
theorem lc_0 (hs : am_sc scr) (G : gI h W ser B a) (Z : szI h n W) (hB : 0 ≤ B ∧ B < 600000) (hx : 0 ≤ x ∧ x + 6 ≤ (scr.1 : Int)) (K : KT scr d Q B n x) : am_R (am_prog scr) (d + 72) f_L_law 212 [some (.inr (.inr (-1000))), some (.inr (.inr (((0) : Nat) : Int))), some (.inr (.inr ((109 : Nat) : Int))), some (.inl (x))] [] h Q := by
  have s1 := hs.1
  refine w_L_law_212 hs G.1 ?_
  rw [am_w_id (x := x + 1) (by omega) (by omega), am_w_id (x := x + 2) (by omega) (by omega), am_w_id (x := x + 3) (by omega) (by omega), am_w_id (x := x + 4) (by omega) (by omega), am_w_id (x := x + 5) (by omega) (by omega)]
  obtain ⟨t1, t2, t3, t4, t5⟩ := G.tp
  have v1 := hs.2 (x + 1).toNat
  have v2 := hs.2 (x + 2).toNat
  have v3 := hs.2 (x + 3).toNat
  have v4 := hs.2 (x + 4).toNat
  have v5 := hs.2 (x + 5).toNat
  refine ⟨by omega, by omega, by omega, by omega, by omega, ?_⟩
  generalize scr.2 (x + 1).toNat = a1 at *
  generalize scr.2 (x + 2).toNat = a2 at *
  generalize scr.2 (x + 3).toNat = a3 at *
  generalize scr.2 (x + 4).toNat = a4 at *
  generalize scr.2 (x + 5).toNat = a5 at *
  obtain ⟨X, hX⟩ : ∃ X : Nat → Int, X = fun j => [a1, a2, a3, a4, a5].getD j 0 := ⟨_, rfl⟩
  have x0 : X 0 = a1 := by rw [hX]; rfl
  have x1 : X 1 = a2 := by rw [hX]; rfl
  have x2 : X 2 = a3 := by rw [hX]; rfl
  have x3 : X 3 = a4 := by rw [hX]; rfl
  have x4 : X 4 = a5 := by rw [hX]; rfl
  clear hX
  subst x0 x1 x2 x3 x4
  have hX : ∀ i, i < 5 → am_w (X i) = X i := fun i hi => by
    rcases (by omega : i = 0 ∨ i = 1 ∨ i = 2 ∨ i = 3 ∨ i = 4) with rfl | rfl | rfl | rfl | rfl <;> assumption
  refine k_Sfeed hs G.1 hX t1 (fun g w f e1 e2 => ⟨_, rfl, w, by omega, by omega, by omega, by omega, by omega, ?_⟩)
  have g5 : g.2.2.2 109 5 = h.2.2.2 0 1 := by rw [f.c 109 (by decide) (by decide)]; exact t2
  refine k_Mfeed hs w hX (by rw [g5]; exact t1) (fun k wk fk e3 e4 => ⟨_, rfl, wk, ?_⟩)
  rw [g5] at e3 e4 ⊢
  refine lc_tl rfl (G.misc (f.mono (by decide) (by decide)) (G.wc.fr f (by decide) (by decide)) wk (fk.mono (by decide) (by decide)) ?_ ?_) (Z.two f fk) hx hs K
  · refine G.tr.of (fun t ht => ⟨?_, ?_⟩) ?_ ?_ ?_
    · rw [fk.c _ (by simp <;> omega) (by simp <;> omega), f.c _ (by simp <;> omega) (by simp <;> omega)]
    · rw [fk.c _ (by simp <;> omega) (by simp <;> omega), f.c _ (by simp <;> omega) (by simp <;> omega)]
    · rw [fk.c 130 (by decide) (by decide), f.c 130 (by decide) (by decide)]
    · rw [fk.c 131 (by decide) (by decide), f.c 131 (by decide) (by decide)]
    · rw [fk.c 132 (by decide) (by decide), f.c 132 (by decide) (by decide)]
  · have lo : ∀ c, c < 109 → k.2.2.2 c = g.2.2.2 c := fun c hc => fk.c c (by simp; omega) (by simp; omega)
    have rest : (k.2.2.2 0 2 = k.2.2.2 109 13 ∧ k.2.2.2 0 3 = k.2.2.2 109 14) ∧ (0 ≤ k.2.2.2 2 2 ∧ k.2.2.2 2 2 ≤ 900) := by
      rw [lo 0 (by omega), lo 2 (by omega), f.f 0 2 (by decide) (by decide), f.f 0 3 (by decide) (by decide), f.c 2 (by decide) (by decide), fk.f 109 13 (by decide) (by decide), fk.f 109 14 (by decide) (by decide), f.c 109 (by decide) (by decide)]
      exact ⟨t4, t5⟩
    have g112 : g.2.2.2 112 = h.2.2.2 112 := f.c 112 (by decide) (by decide)
    by_cases c : h.2.2.2 0 1 + 20 ≤ 900
    · obtain ⟨b1, b2⟩ := e1 c
      obtain ⟨b3, b4⟩ := e3 c
      refine ⟨by rw [lo 0 (by omega), b1]; omega, by rw [b3, lo 0 (by omega), b1], fun j hj => ?_, rest.1, rest.2⟩
      rw [lo 0 (by omega), b1] at hj
      rw [lo 1 (by omega), b2, b4, g112]
      by_cases cj : h.2.2.2 0 1 ≤ (j : Int) ∧ (j : Int) < h.2.2.2 0 1 + 20
      · rw [if_pos cj, if_pos cj]
        have bm := (bmod256 (x := fbA X (j - (h.2.2.2 0 1).toNat))).2
        have b1 := Int.le_bmod (x := fbA X (j - (h.2.2.2 0 1).toNat)) (m := 256) (by omega)
        have b2 := Int.bmod_lt (x := fbA X (j - (h.2.2.2 0 1).toNat)) (m := 256) (by omega)
        exact ⟨by omega, bm.symm⟩
      · rw [if_neg cj, if_neg cj]
        exact t3 j (by omega)
    · obtain ⟨b1, b2⟩ := e2 c
      obtain ⟨b3, b4⟩ := e4 c
      refine ⟨by rw [lo 0 (by omega), b1]; omega, by rw [b3, lo 0 (by omega), b1], fun j hj => ?_, rest.1, rest.2⟩
      rw [lo 0 (by omega), b1] at hj
      rw [lo 1 (by omega), b2, b4, g112]
      exact t3 j hj
end LCd
