/-! the law's loop: a house; what stays when cells are added -/
def subW (W V : Wd) : Prop := W.1 ≤ V.1 ∧ ∀ s, s ≤ W.1 → V.2.1 s = W.2.1 s ∧ V.2.2.1 s = W.2.2.1 s ∧ V.2.2.2 s = W.2.2.2 s
section SBx
variable {h g k : am_H} {W V : Wd} {ser sr p : Nat} {B C : Int} {a b : Nat → Int} {f : Nat → (Nat → Int) → Int}
theorem subW.rfl : subW W W := ⟨Nat.le_refl _, fun _ _ => ⟨by rfl, by rfl, by rfl⟩⟩
theorem subW.add {c : Nat} : subW W (addW W c b f) := ⟨by show W.1 ≤ W.1 + 1; omega, fun _ hs => addW_lo hs⟩
theorem plW.sub (x : plW h W p sr a) (S : subW W V) (e : ∀ c, p ≤ c → c ≤ p + 2 → g.2.2.2 c = h.2.2.2 c) : plW g V p sr a := by
  obtain ⟨x1, x2, x3, x4⟩ := x
  obtain ⟨e1, e2, e3⟩ := S.2 sr x1
  refine ⟨by have := S.1; omega, fun j hj => by rw [e1]; exact x2 j hj, ?_, by rw [e p (by omega) (by omega)]; exact x4⟩
  rw [e3]
  unfold plC at x3 ⊢
  rw [e p (by omega) (by omega), e (p + 1) (by omega) (by omega), e (p + 2) (by omega) (by omega)]
  exact x3
theorem rgC.sub (x : rgC h W ser a) (S : subW W V) (e : ∀ c, 63 ≤ c → c ≤ 94 → g.2.2.2 c = h.2.2.2 c) : rgC g V ser a := by
  obtain ⟨x1, x2, x3⟩ := x
  unfold rgC
  rw [e 63 (by omega) (by omega)]
  refine ⟨x1, x2, fun i hi => (x3 i hi).sub S (fun c h1 h2 => e c (by omega) (by omega))⟩
theorem grI.sub (x : grI h W B) (S : subW W V) (ec : ∀ c, 30 ≤ c → c ≤ 36 → g.2.2.2 c = h.2.2.2 c) (hBC : B ≤ C) : grI g V C := by
  unfold grI
  rw [ec 30 (by omega) (by omega)]
  rcases x with x | ⟨ser, a, x1, x2, x3, x4⟩
  · exact Or.inl x
  · obtain ⟨e1, e2, e3⟩ := S.2 ser x3.1.1
    refine Or.inr ⟨ser, a, by rw [e2]; exact x1.le hBC, x2, ⟨⟨by have := S.1; have := x3.1.1; omega, fun j hj => by rw [e1]; exact x3.1.2 j hj⟩, ?_, ?_, ?_⟩, ?_⟩
    · obtain ⟨st, s1, s2⟩ := x3.2.1
      refine ⟨st, s1, ?_⟩
      rw [e3]
      unfold plC at s2 ⊢
      rw [ec 31 (by omega) (by omega), ec (31 + 1) (by omega) (by omega), ec (31 + 2) (by omega) (by omega)]
      exact s2
    · rw [ec 31 (by omega) (by omega)]
      have := x3.2.2.1
      omega
    · rw [e2]
      exact x3.2.2.2.fr (fun j _ => by rw [ec 34 (by omega) (by omega)]) (fun j _ => by rw [ec 35 (by omega) (by omega)])
    · rw [e2]
      exact x4.fr (by rw [ec 30 (by omega) (by omega)]) (by rw [ec 30 (by omega) (by omega)]) (ec 36 (by omega) (by omega)) (ec 34 (by omega) (by omega))
theorem plcI.sub (x : plcI h W B) (S : subW W V) (e : g.2.2.2 57 = h.2.2.2 57) (e' : g.2.2.2 62 = h.2.2.2 62) (hBC : B ≤ C) : plcI g V C := by
  rcases x with x | ⟨s, b, x1, x2, x3, x4, x5, x6⟩
  · exact Or.inl (by rw [e]; exact x)
  · obtain ⟨e1, e2, e3⟩ := S.2 s x1
    refine Or.inr ⟨s, b, by have := S.1; omega, fun j hj => by rw [e1]; exact x2 j hj, by rw [e2]; exact x3.le hBC, by rw [e]; exact x4, by rw [e]; exact x5, ?_⟩
    rw [e2]
    unfold stC at x6 ⊢
    rw [e, e']; exact x6
theorem imR.sub (x : imR h W a B) (S : subW W V) (e1 : g.2.2.2 19 = h.2.2.2 19) (e2 : g.2.2.2 111 = h.2.2.2 111) (e3 : ∀ c, 103 ≤ c → c ≤ 108 → g.2.2.2 c = h.2.2.2 c) (e4 : ∀ j, 1112 ≤ j → b j = a j) (hc : B ≤ C) : imR g V b C := by
  intro i hi
  have ei : imgA b i = imgA a i := funext fun j => e4 _ (by omega)
  obtain ⟨y1, y2⟩ := x i hi
  rw [e1, e2, ei]
  refine ⟨y1, ?_⟩
  rcases y2 with y2 | ⟨sr, z1, z2⟩
  · exact Or.inl y2
  · exact Or.inr ⟨sr, z1.sub S (fun c h1 h2 => e3 c (by omega) (by omega)), by rw [(S.2 sr z1.1).2.1]; exact z2.le hc⟩
theorem wc.ext (x : wc h W) (hr : hrI h W) (e1 : ∀ d, d < h.1 → g.2.2.1 d = h.2.2.1 d) (e2 : ∀ d, 133 ≤ d ∨ d = 21 ∨ (10 ≤ d ∧ d ≤ 13) → d < h.1 → g.2.2.2 d = h.2.2.2 d) (hg : h.1 ≤ g.1) (h133 : 133 ≤ h.1) : wc g W := by
  obtain ⟨x1, ⟨x2, x3⟩, x4⟩ := x
  have lw : ∀ r t F, (∀ l : Nat, r = (l : Int) → l < h.1) → lwC h r t F → lwC g r t F := by
    intro r t F hr w
    rcases w with w | ⟨w1, l, m, w2, w3, w4, w5⟩
    · exact Or.inl w
    · have := hr l w2
      exact Or.inr ⟨w1, l, m, w2, w3, by rw [e1 l this]; exact w4, by rw [e2 l (by omega) this]; exact w5⟩
  refine ⟨x1, ⟨x2, fun s l => ?_⟩, ?_⟩
  · obtain ⟨y1, y2, y3⟩ := x3 s l
    have ec := e2 (W.2.2.2 s) (by have := y1.1; omega) y3
    refine ⟨?_, by rw [ec]; exact y2, by omega⟩
    obtain ⟨c1, c2, c3, c4, c5, c6, c7, c8, c9, c10⟩ := y1
    have hb := hr.2 s l
    unfold hsC
    rw [ec, e1 _ y3]
    exact ⟨c1, c2, c3, c4, c5, c6, c7, c8, lw _ _ _ (fun l hl => by omega) c9, lw _ _ _ (fun l hl => by omega) c10⟩
  · intro sl hsl
    rw [e2 10 (by omega) (by omega), e2 11 (by omega) (by omega), e2 12 (by omega) (by omega), e2 13 (by omega) (by omega)]
    exact x4 sl hsl
end SBx
section OPx
variable {scr : Nat × (Nat → Int)} {d : Nat} {h : am_H} {Q : Option am_V → am_H → Prop}
theorem k_open {hd : Nat} (hs : am_sc scr) (hw : wf h) (h133 : 133 ≤ hd) (k1 : h.2.2.1 hd = (11, 14)) (k2 : h.2.2.1 (hd + 1) = (1, 6)) (k3 : h.2.2.1 (hd + 2) = (1, 6)) (r5 : h.2.2.2 hd 5 = ((hd + 1 : Nat) : Int)) (r6 : h.2.2.2 hd 6 = ((hd + 2 : Nat) : Int)) (H : ∀ g, wf g → fr [24, 25, 26] [] h g → g.2.2.2 24 0 = (hd : Int) → (∀ s, s < 6 → g.2.2.2 25 s = h.2.2.2 (hd + 1) s ∧ g.2.2.2 26 s = h.2.2.2 (hd + 2) s) → g.2.2.2 24 3 = h.2.2.2 hd 10 → g.2.2.2 24 8 = (if h.2.2.2 hd 4 = 0 then 1 else 0) → g.2.2.2 24 4 = (if h.2.2.2 hd 4 = 0 then -1 else h.2.2.2 hd 7) → g.2.2.2 24 5 = h.2.2.2 hd 8 → g.2.2.2 24 6 = 0 → g.2.2.2 24 7 = 0 → Q none g) : am_R (am_prog scr) d f_Play_open 0 [some (.inr (.inr (((24) : Nat) : Int))), some (.inr (.inr ((hd : Nat) : Int)))] [] h Q := by
  have w25 : h.2.2.1 25 = (1, 6) := hw.k (by omega) (by decide +kernel)
  have w26 : h.2.2.1 26 = (1, 6) := hw.k (by omega) (by decide +kernel)
  refine w_Play_open_0 (p0 := 24) (by decide) hs hw ⟨by omega, fun h2 q2 => ?_⟩
  have c2 : ∀ c, c ≠ 24 → h2.2.2.2 c = h.2.2.2 c := fun c hc => by rw [q2, put_c hc]
  have kk2 : h2.2.2.1 = h.2.2.1 := by rw [q2]; rfl
  have iso : ∀ g : am_H, g.2.2.1 = h.2.2.1 → am_isO g ((hd : Nat) : Int) 1 := fun g hg => ⟨by omega, by rw [Int.toNat_natCast, hg, k1]⟩
  simp only [Int.toNat_natCast]
  rw [c2 hd (by omega), r5, Int.toNat_natCast, kk2, k2, w25]
  refine ⟨iso h2 kk2, ⟨by omega, rfl⟩, ⟨by omega, rfl⟩, by omega, by omega, by simp, by simp, fun h10 q10 => ?_⟩
  have kk10 : h10.2.2.1 = h.2.2.1 := by rw [q10]; exact kk2
  have c10 : ∀ c, c ≠ 24 → c ≠ 25 → h10.2.2.2 c = h.2.2.2 c := fun c h1 h3 => by
    rw [← c2 c h1, q10]; funext j; rw [cpy_at, if_neg (fun z => h3 z.1)]
  rw [c10 hd (by omega) (by omega), r6, Int.toNat_natCast, kk10, k3, w26]
  refine ⟨iso h10 kk10, ⟨by omega, rfl⟩, ⟨by omega, rfl⟩, by omega, by omega, by simp, by simp, fun h18 q18 => ?_⟩
  have kk18 : h18.2.2.1 = h.2.2.1 := by rw [q18]; exact kk10
  have c18 : ∀ c, c ≠ 24 → c ≠ 25 → c ≠ 26 → h18.2.2.2 c = h.2.2.2 c := fun c h1 h3 h4 => by
    rw [← c10 c h1 h3, q18]; funext j; rw [cpy_at, if_neg (fun z => h4 z.1)]
  have b25 : ∀ s, s < 6 → h18.2.2.2 25 s = h.2.2.2 (hd + 1) s := fun s hs => by
    rw [q18, cpy_at, if_neg (by omega), q10, cpy_at, if_pos (by omega), c2 _ (by omega), Nat.zero_add, Nat.sub_zero]
  have b26 : ∀ s, s < 6 → h18.2.2.2 26 s = h.2.2.2 (hd + 2) s := fun s hs => by
    rw [q18, cpy_at, if_pos (by omega), c10 _ (by omega) (by omega), Nat.zero_add, Nat.sub_zero]
  have b24 : h18.2.2.2 24 0 = (hd : Int) := by rw [q18, cpy_at, if_neg (by omega), q10, cpy_at, if_neg (by omega), q2, put_eq]
  have w18 : wf h18 := by rw [q18, q10, q2]; exact ((hw.put np_24_0).cpy (by decide +kernel)).cpy (by decide +kernel)
  have f18 : fr [24, 25, 26] [] h h18 := by rw [q18, q10, q2]; exact ((fr.rfl.put (Or.inl (by decide))).cpy (by decide)).cpy (by decide)
  refine ⟨iso h18 kk18, fun h20 q20 => ?_⟩
  have kk20 : h20.2.2.1 = h.2.2.1 := by rw [q20]; exact kk18
  have e20 : ∀ j, h20.2.2.2 hd j = h.2.2.2 hd j := fun j => by rw [q20, put_ne (by omega), c18 hd (by omega) (by omega) (by omega)]
  rw [e20]
  -- the last fields
  have fin : ∀ (v u : Int) (h22 h24 h26 h27 h28 : am_H), h22 = am_put h20 24 8 v → h24 = am_put h22 24 4 u → h26 = am_put h24 24 5 (h24.2.2.2 hd 8) → h27 = am_put h26 24 6 0 → h28 = am_put h27 24 7 0 → v = (if h.2.2.2 hd 4 = 0 then 1 else 0) → u = (if h.2.2.2 hd 4 = 0 then -1 else h.2.2.2 hd 7) → Q none h28 := by
    intro v u h22 h24 h26 h27 h28 q22 q24 q26 q27 q28 hv hu
    have e24 : h24.2.2.2 hd 8 = h.2.2.2 hd 8 := by rw [q24, put_ne (by omega), q22, put_ne (by omega), e20]
    rw [e24] at q26
    have e10 : h18.2.2.2 hd 10 = h.2.2.2 hd 10 := by rw [c18 hd (by omega) (by omega) (by omega)]
    rw [e10] at q20
    have all : ∀ c j, h28.2.2.2 c j = if c = 24 ∧ j = 7 then 0 else if c = 24 ∧ j = 6 then 0 else if c = 24 ∧ j = 5 then h.2.2.2 hd 8 else if c = 24 ∧ j = 4 then u else if c = 24 ∧ j = 8 then v else if c = 24 ∧ j = 3 then h.2.2.2 hd 10 else h18.2.2.2 c j := fun c j => by rw [q28, q27, q26, q24, q22, q20]; rfl
    refine H h28 (by rw [q28, q27, q26, q24, q22, q20]; exact (((((w18.put np_24_3).put np_24_8).put np_24_4).put np_24_5).put np_24_6).put np_24_7) (by rw [q28, q27, q26, q24, q22, q20]; exact (((((f18.put (Or.inl (by decide))).put (Or.inl (by decide))).put (Or.inl (by decide))).put (Or.inl (by decide))).put (Or.inl (by decide))).put (Or.inl (by decide))) ?_ (fun s hs => ⟨?_, ?_⟩) ?_ ?_ ?_ ?_ ?_ ?_
    · rw [all]; simp; exact b24
    · rw [all]; simp; exact b25 s hs
    · rw [all]; simp; exact b26 s hs
    · rw [all]; simp
    · rw [all]; simp; exact hv
    · rw [all]; simp; exact hu
    · rw [all]; simp
    · rw [all]; simp
    · rw [all]; simp
  refine ⟨iso h20 kk20, fun c h22 q22 => ?_, fun c h35 q35 => ?_⟩
  · have v8 : h22.2.2.2 24 8 = 0 := by rw [q22, put_eq]
    have e22 : h22.2.2.2 hd 7 = h.2.2.2 hd 7 := by rw [q22, put_ne (by omega), e20]
    rw [v8, e22]
    refine ⟨fun _ => ⟨iso h22 (by rw [q22]; exact kk20), fun h24 q24 => ⟨iso h24 (by rw [q24, q22]; exact kk20), fun h26 q26 h27 q27 h28 q28 => ?_⟩⟩, fun z => absurd rfl z⟩
    exact fin 0 (h.2.2.2 hd 7) h22 h24 h26 h27 h28 q22 q24 q26 q27 q28 (by rw [if_neg c]) (by rw [if_neg c])
  · have v8 : h35.2.2.2 24 8 = 1 := by rw [q35, put_eq]
    rw [v8]
    refine ⟨fun z => absurd z (by omega), fun _ h42 q42 => ⟨iso h42 (by rw [q42, q35]; exact kk20), fun h44 q44 h45 q45 h46 q46 => ?_⟩⟩
    exact fin 1 (-1) h35 h42 h44 h45 h46 q35 q42 q44 q45 q46 (by rw [if_pos c]) (by rw [if_pos c])
end OPx
