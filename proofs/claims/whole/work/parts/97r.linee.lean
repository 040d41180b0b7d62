/-! a text's lines: the class, sleepers and laws -/
section LE
variable {scr : Nat × (Nat → Int)} {d : Nat} {h : am_H} {Q : Option am_V → am_H → Prop} {T : Nat → Int} {N M p q D B : Nat} {e : PE} {ds : DS} {h0 g : am_H} {ser : Int}
theorem drS.arr (x : drS h0 h B) (k : Nat) (hk : k = 5 ∨ k = 6) : (h.2.2.2 (h.2.2.2 2 3).toNat k) = ((h0.1 + (k - 4) : Nat) : Int) ∧ h.2.2.1 (h0.1 + (k - 4)) = (1, 6) := by
  rw [x.hd]
  rcases hk with rfl | rfl
  · exact ⟨x.2.2.2.2.2.2.2.1, x.2.2.2.2.2.1⟩
  · exact ⟨x.2.2.2.2.2.2.2.2.1, x.2.2.2.2.2.2.1⟩
theorem c_sleeper (hD : 8 ≤ D) (hs : am_sc scr) (x : stK h0 h T N ser (ds, p)) (hN : N ≤ 900) (I : dsI ds p) (k4 : tkK T N p = 4) (H : ∀ g, stR h0 g T N ser (bodyF T N ds p) → Q none g) : am_R (am_prog scr) D f_Reader_readSleeper 0 [some (.inr (.inr (((2) : Nat) : Int))), none, none] [] h Q := by
  obtain ⟨D, rfl⟩ : ∃ d, D = d + 1 := ⟨D - 1, by omega⟩
  obtain ⟨i1, i2, i3, i4, i5, i6, i7, i8, i9, i10, i11, i12, i13, i14, i15⟩ := I.1
  have xx := x
  obtain ⟨x1, x2, x3, x4, x5, x6⟩ := xx
  have pN : p ≤ N := x3.1.1
  have h133 := x4.1
  unfold bodyF at H
  rw [if_pos k4] at H
  obtain ⟨s, hs4⟩ : ∃ s : Nat, ds.1 4 = (s : Int) := ⟨(ds.1 4).toNat, by omega⟩
  have es : (ds.1 4).toNat = s := by omega
  have f1 : h.2.2.2 h0.1 1 = ds.1 1 := x5.2.1.1
  have f4 : h.2.2.2 h0.1 4 = ds.1 4 := x5.2.1.2.2.2
  refine w_Reader_readSleeper_0 hs x1 ⟨x4.iso, x4.iso, ?_⟩
  rw [x4.hd, f1, f4]
  refine ⟨fun c => ?_, fun c => ⟨x4.iso, fun _ => ?_, fun c => by omega⟩⟩
  · rw [if_pos (by omega)] at H
    exact c_ref (M := 900) hs x1 x2 x3 (by omega) (by omega) (fun g wg fg og => ⟨rfl, wg, H g (stK.fl x wg fg og (by simp only; omega))⟩)
  · rw [if_neg (by omega)] at H
    have s6 : s < 6 := by omega
    have gt0 := tk_gt pN (show tkK T N p ≠ 26 by omega)
    refine c_adv (by omega) hs x1 x2 x3 (fun g wg fg og e5 e2 => ⟨rfl, wg, ?_⟩)
    have y : stK h0 g T N ser (ds, tkE T N p) := x.tok wg fg og (by omega) e2
    -- faulted: the rest of the line
    have f89 : ∀ (k : am_H) (ee : PE), stF h0 k T N ee → (0 ≤ k.2.2.2 h0.1 4 ∧ k.2.2.2 h0.1 4 < 6) → (∀ g, stR h0 g T N ser (.inl ee) → Q none g) → am_R (am_prog scr) (D + 1) f_Reader_readSleeper 89 [some (.inr (.inr (((2) : Nat) : Int))), none, none] [] k Q := by
      intro k ee z k46 HH
      refine w_Reader_readSleeper_89 hs z.1 ⟨z.2.2.2.iso, c_wnum_f (by omega) hs z.1 z.2.2.1 ⟨_, rfl, z.1, c_want_f (by omega) hs z.1 z.2.2.1 ⟨rfl, z.1, c_wnum_f (by omega) hs z.1 z.2.2.1 ⟨_, rfl, z.1, z.2.2.2.iso, z.2.2.2.iso, ?_⟩⟩⟩⟩
      obtain ⟨a1, a2⟩ := z.2.2.2.arr 5 (Or.inl rfl)
      rw [a1, z.2.2.2.hd, Int.toNat_natCast]
      refine ⟨⟨by omega, by rw [Int.toNat_natCast, a2], k46.1, by rw [Int.toNat_natCast, a2]; simp; omega⟩, hi_wo (by omega), fun h11 q11 => ?_⟩
      have z11 : stF h0 h11 T N ee := by rw [q11]; exact z.hi (by omega) (by omega)
      have k11 : h11.2.2.2 h0.1 4 = k.2.2.2 h0.1 4 := by rw [q11, put_ne (by omega)]
      refine ⟨z11.2.2.2.iso, z11.2.2.2.iso, ?_⟩
      obtain ⟨b1, b2⟩ := z11.2.2.2.arr 6 (Or.inr rfl)
      rw [b1, z11.2.2.2.hd, Int.toNat_natCast, k11]
      refine ⟨⟨by omega, by rw [Int.toNat_natCast, b2], k46.1, by rw [Int.toNat_natCast, b2]; simp; omega⟩, hi_wo (by omega), fun h16 q16 => ?_⟩
      have z16 : stF h0 h16 T N ee := by rw [q16]; exact z11.hi (by omega) (by omega)
      refine ⟨z16.2.2.2.iso, z16.2.2.2.iso, ?_⟩
      rw [z16.2.2.2.hd]
      refine ⟨hi_wr h133 4, fun h20 q20 => ?_⟩
      rw [q20]
      exact HH _ (z16.hi (Nat.le_refl _) (by omega))
    have k46 : ∀ (k : am_H) (z : DS × Nat), stK h0 k T N ser z → z.1 = ds → (0 ≤ k.2.2.2 h0.1 4 ∧ k.2.2.2 h0.1 4 < 6) := by
      intro k z zz ez
      have : k.2.2.2 h0.1 4 = z.1.1 4 := zz.2.2.2.2.1.2.1.2.2.2
      rw [this, ez]; omega
    have e4f : ∀ (k g : am_H), frK k g → (0 ≤ k.2.2.2 h0.1 4 ∧ k.2.2.2 h0.1 4 < 6) → (0 ≤ g.2.2.2 h0.1 4 ∧ g.2.2.2 h0.1 4 < 6) := fun k g f z => by rw [f.hi (by decide) RCF_lo h133]; exact z
    refine c_want (j := 7) (M := 900) (by omega) hs wg y.2.1 og (by omega) (by omega) (by have := y.2.2.2.2.2; omega) (fun q g2 w2 f2 o2 e25 e22 => ⟨rfl, w2, ?_⟩) (fun q g2 w2 f2 o2 => ⟨rfl, w2, ?_⟩)
    · have q5 : tkK T N (tkE T N p) = 5 := q
      have gt1 := tk_gt gt0.2 (show tkK T N (tkE T N p) ≠ 26 by omega)
      have y2 : stK h0 g2 T N ser (ds, tkE T N (tkE T N p)) := y.tok w2 f2 o2 (by omega) e22
      have hq : wN T N (tkE T N p) 5 = .inr (tkE T N (tkE T N p)) := by unfold wN; rw [if_pos q5]
      rw [hq] at H
      simp only [eB] at H
      have p2 : tkE T N (tkE T N p) ≤ N := gt1.2
      generalize tkE T N (tkE T N p) = p1 at *
      have yd := y2.2.2.2.1
      have ydd := y2.2.2.2.2.1
      -- the rest
      have s89 : ∀ (H : ∀ g, stR h0 g T N ser (eB (nN T N p1 0 (ds.1 1 - 1)) (fun b => eB (wN T N b.2 6) (fun p3 => eB (nN T N p3 0 9) (fun r => .inr (slS ds b.1 r.1, r.2))))) → Q none g), am_R (am_prog scr) (D + 1) f_Reader_readSleeper 89 [some (.inr (.inr (((2) : Nat) : Int))), none, none] [] g2 Q := by
        intro H
        refine w_Reader_readSleeper_89 hs w2 ⟨yd.iso, ?_⟩
        rw [yd.hd, show g2.2.2.2 h0.1 1 = ds.1 1 from ydd.2.1.1, am_w_id (by omega) (by omega)]
        refine c_wnum (M := 900) (by omega) hs w2 y2.2.1 o2 (by have := y2.2.2.2.2.2; omega) (fun z hz g3 w3 f3 o3 e3 => ⟨_, rfl, w3, ?_⟩) (fun ee he g3 w3 f3 o3 => ⟨_, rfl, w3, ?_⟩)
        · rw [hz] at H
          simp only [eB] at H
          obtain ⟨kz, lz, vz, qz⟩ := nN_inr hz
          have gt2 := tk_gt p2 (show tkK T N p1 ≠ 26 by omega)
          have y3 : stK h0 g3 T N ser (ds, z.2) := y2.tok w3 f3 o3 (by omega) e3
          refine c_want (j := 8) (M := 900) (by omega) hs w3 y3.2.1 o3 (by omega) (by omega) (by have := y3.2.2.2.2.2; omega) (fun q g4 w4 f4 o4 e45 e42 => ⟨rfl, w4, ?_⟩) (fun q g4 w4 f4 o4 => ⟨rfl, w4, ?_⟩)
          · have q6 : tkK T N z.2 = 6 := q
            have zN : z.2 ≤ N := by omega
            have gt3 := tk_gt zN (show tkK T N z.2 ≠ 26 by omega)
            have y4 : stK h0 g4 T N ser (ds, tkE T N z.2) := y3.tok w4 f4 o4 (by omega) e42
            have hq2 : wN T N z.2 6 = .inr (tkE T N z.2) := by unfold wN; rw [if_pos q6]
            rw [hq2] at H
            simp only at H
            refine c_wnum (M := 900) (by omega) hs w4 y4.2.1 o4 (by have := y4.2.2.2.2.2; omega) (fun u hu g5 w5 f5 o5 e5 => ⟨_, rfl, w5, ?_⟩) (fun ee he g5 w5 f5 o5 => ⟨_, rfl, w5, ?_⟩)
            · rw [hu] at H
              simp only at H
              obtain ⟨ku, lu, vu, qu⟩ := nN_inr hu
              have gt4 := tk_gt gt3.2 (show tkK T N (tkE T N z.2) ≠ 26 by omega)
              have y5 : stK h0 g5 T N ser (ds, u.2) := y4.tok w5 f5 o5 (by omega) e5
              obtain ⟨z1, z2, z3, z4, z5, z6⟩ := y5
              have e54 : g5.2.2.2 h0.1 4 = (s : Int) := by rw [← hs4]; exact z5.2.1.2.2.2
              refine ⟨z4.iso, z4.iso, ?_⟩
              obtain ⟨a1, a2⟩ := z4.arr 5 (Or.inl rfl)
              rw [a1, z4.hd, Int.toNat_natCast, e54, Int.toNat_natCast]
              refine ⟨⟨by omega, by rw [Int.toNat_natCast, a2], by omega, by rw [Int.toNat_natCast, a2]; simp; omega⟩, hi_wo (by omega), fun h11 q11 => ?_⟩
              have d11 : drS h0 h11 u.2 := by rw [q11]; exact z4.put (by omega) (by omega)
              have k11 : h11.2.2.2 h0.1 4 = (s : Int) := by rw [q11, put_ne (by omega)]; exact e54
              refine ⟨d11.iso, d11.iso, ?_⟩
              obtain ⟨b1, b2⟩ := d11.arr 6 (Or.inr rfl)
              rw [b1, d11.hd, Int.toNat_natCast, k11, Int.toNat_natCast]
              refine ⟨⟨by omega, by rw [Int.toNat_natCast, b2], by omega, by rw [Int.toNat_natCast, b2]; simp; omega⟩, hi_wo (by omega), fun h16 q16 => ?_⟩
              have d16 : drS h0 h16 u.2 := by rw [q16]; exact d11.put (by omega) (by omega)
              refine ⟨d16.iso, d16.iso, ?_⟩
              have k16 : h16.2.2.2 h0.1 4 = (s : Int) := by rw [q16, put_ne (by omega)]; exact k11
              rw [d16.hd, k16, am_w_id (by omega) (by omega)]
              refine ⟨hi_wr h133 4, fun h20 q20 => ?_⟩
              have c20 : ∀ c j, h20.2.2.2 c j = if c = h0.1 ∧ j = 4 then (s : Int) + 1 else if c = h0.1 + 2 ∧ j = s then u.1 else if c = h0.1 + 1 ∧ j = s then z.1 else g5.2.2.2 c j := fun c j => by rw [q20, q16, q11]; rfl
              have n20 : ∀ c, c ≠ h0.1 → c ≠ h0.1 + 1 → c ≠ h0.1 + 2 → h20.2.2.2 c = g5.2.2.2 c := fun c h1 h2 h3 => funext fun j => by rw [c20, if_neg (by omega), if_neg (by omega), if_neg (by omega)]
              have w20 : wf h20 := by rw [q20, q16, q11]; exact ((z1.hi (by omega)).hi (by omega)).hi h133
              refine H h20 ⟨w20, by rw [q20, q16, q11]; exact ((z2.hi (by omega)).hi (by omega)).hi h133, by rw [q20, q16, q11]; exact ((z3.hi (by omega)).hi (by omega)).hi h133, by rw [q20]; exact d16.put (Nat.le_refl _) (by omega), ?_, by rw [n20 2 (by omega) (by omega) (by omega)]; exact z6⟩
              have fd : ∀ j, j ≠ 4 → h20.2.2.2 h0.1 j = g5.2.2.2 h0.1 j := fun j hj => by rw [c20, if_neg (by omega), if_neg (by omega), if_neg (by omega)]
              obtain ⟨v1, ⟨v2, v3, v4, v5⟩, ⟨v6, v7, v8, v9, v10⟩, v11, v12, v13⟩ := z5
              have so : ∀ j, j ≠ 4 → j ≠ 16 + s → j ≠ 22 + s → (slS ds z.1 u.1).1 j = ds.1 j := fun j h1 h2 h3 => by simp only [slS]; rw [es, up_ne h1, up_ne h3, up_ne h2]
              have h205 : h20.1 = g5.1 ∧ h20.2.2.1 = g5.2.2.1 := by rw [q20, q16, q11]; exact ⟨rfl, rfl⟩
              have lw : ∀ i t l, i = 12 ∨ i = 13 → lwK g5 h0.1 i t l → lwK h20 h0.1 i t l := fun i t l hi w => w.eq (by rw [h205.1]; omega) (fun _ _ _ => by rw [h205.2]) (fd i (by omega)) (fun c hc _ => n20 c (by omega) (by omega) (by omega))
              refine ⟨by rw [fd 0 (by omega)]; exact v1, ⟨by rw [fd 1 (by omega), so 1 (by omega) (by omega) (by omega)]; exact v2, by rw [fd 2 (by omega), so 2 (by omega) (by omega) (by omega)]; exact v3, by rw [fd 3 (by omega), so 3 (by omega) (by omega) (by omega)]; exact v4, ?_⟩, ⟨by rw [fd 7 (by omega), so 12 (by omega) (by omega) (by omega)]; exact v6, by rw [fd 8 (by omega), so 13 (by omega) (by omega) (by omega)]; exact v7, by rw [fd 9 (by omega), so 5 (by omega) (by omega) (by omega)]; exact v8, by rw [fd 10 (by omega), so 28 (by omega) (by omega) (by omega)]; exact v9, by rw [fd 11 (by omega), so 0 (by omega) (by omega) (by omega)]; exact v10⟩, fun t ht => ⟨?_, ?_⟩, ?_, ?_⟩
              · rw [c20, if_pos ⟨rfl, rfl⟩]; simp only [slS]; rw [up_eq, hs4]
              · by_cases ct : t = s
                · subst ct
                  rw [c20, if_neg (by omega), if_neg (by omega), if_pos ⟨rfl, rfl⟩]; simp only [slS]; rw [es, up_ne (by omega), up_ne (by omega), up_eq]
                · rw [c20, if_neg (by omega), if_neg (by omega), if_neg (by omega), so (16 + t) (by omega) (by omega) (by omega)]; exact (v11 t ht).1
              · by_cases ct : t = s
                · subst ct
                  rw [c20, if_neg (by omega), if_pos ⟨rfl, rfl⟩]; simp only [slS]; rw [es, up_ne (by omega), up_eq]
                · rw [c20, if_neg (by omega), if_neg (by omega), if_neg (by omega), so (22 + t) (by omega) (by omega) (by omega)]; exact (v11 t ht).2
              · show lwK h20 h0.1 12 ((slS ds z.1 u.1).1 6) (ds.2 0)
                rw [so 6 (by omega) (by omega) (by omega)]; exact lw 12 _ _ (by omega) v12
              · show lwK h20 h0.1 13 ((slS ds z.1 u.1).1 7) (ds.2 1)
                rw [so 7 (by omega) (by omega) (by omega)]; exact lw 13 _ _ (by omega) v13
            · rw [he] at H
              have zz : stF h0 g5 T N ee := y4.fl w5 f5 o5 (by simp only; omega)
              have kk := e4f g4 g5 f5 (k46 g4 _ y4 rfl)
              -- as in the faulted rest, from the beds on
              refine ⟨zz.2.2.2.iso, zz.2.2.2.iso, ?_⟩
              obtain ⟨a1, a2⟩ := zz.2.2.2.arr 5 (Or.inl rfl)
              rw [a1, zz.2.2.2.hd, Int.toNat_natCast]
              refine ⟨⟨by omega, by rw [Int.toNat_natCast, a2], kk.1, by rw [Int.toNat_natCast, a2]; simp; omega⟩, hi_wo (by omega), fun h11 q11 => ?_⟩
              have z11 : stF h0 h11 T N ee := by rw [q11]; exact zz.hi (by omega) (by omega)
              have k11 : h11.2.2.2 h0.1 4 = g5.2.2.2 h0.1 4 := by rw [q11, put_ne (by omega)]
              refine ⟨z11.2.2.2.iso, z11.2.2.2.iso, ?_⟩
              obtain ⟨b1, b2⟩ := z11.2.2.2.arr 6 (Or.inr rfl)
              rw [b1, z11.2.2.2.hd, Int.toNat_natCast, k11]
              refine ⟨⟨by omega, by rw [Int.toNat_natCast, b2], kk.1, by rw [Int.toNat_natCast, b2]; simp; omega⟩, hi_wo (by omega), fun h16 q16 => ?_⟩
              have z16 : stF h0 h16 T N ee := by rw [q16]; exact z11.hi (by omega) (by omega)
              refine ⟨z16.2.2.2.iso, z16.2.2.2.iso, ?_⟩
              rw [z16.2.2.2.hd]
              refine ⟨hi_wr h133 4, fun h20 q20 => ?_⟩
              rw [q20]
              exact H _ (z16.hi (Nat.le_refl _) (by omega))
          · have q6 : tkK T N z.2 ≠ 6 := q
            have hq2 : wN T N z.2 6 = .inl (eF T N z.2 2) := by unfold wN; rw [if_neg q6]
            rw [hq2] at H
            have zz : stF h0 g4 T N (eF T N z.2 2) := y3.fl w4 f4 o4 (by simp only; omega)
            have kk := e4f g3 g4 f4 (k46 g3 _ y3 rfl)
            refine c_wnum_f (by omega) hs zz.1 zz.2.2.1 ⟨_, rfl, zz.1, zz.2.2.2.iso, zz.2.2.2.iso, ?_⟩
            obtain ⟨a1, a2⟩ := zz.2.2.2.arr 5 (Or.inl rfl)
            rw [a1, zz.2.2.2.hd, Int.toNat_natCast]
            refine ⟨⟨by omega, by rw [Int.toNat_natCast, a2], kk.1, by rw [Int.toNat_natCast, a2]; simp; omega⟩, hi_wo (by omega), fun h11 q11 => ?_⟩
            have z11 : stF h0 h11 T N (eF T N z.2 2) := by rw [q11]; exact zz.hi (by omega) (by omega)
            have k11 : h11.2.2.2 h0.1 4 = g4.2.2.2 h0.1 4 := by rw [q11, put_ne (by omega)]
            refine ⟨z11.2.2.2.iso, z11.2.2.2.iso, ?_⟩
            obtain ⟨b1, b2⟩ := z11.2.2.2.arr 6 (Or.inr rfl)
            rw [b1, z11.2.2.2.hd, Int.toNat_natCast, k11]
            refine ⟨⟨by omega, by rw [Int.toNat_natCast, b2], kk.1, by rw [Int.toNat_natCast, b2]; simp; omega⟩, hi_wo (by omega), fun h16 q16 => ?_⟩
            have z16 : stF h0 h16 T N (eF T N z.2 2) := by rw [q16]; exact z11.hi (by omega) (by omega)
            refine ⟨z16.2.2.2.iso, z16.2.2.2.iso, ?_⟩
            rw [z16.2.2.2.hd]
            refine ⟨hi_wr h133 4, fun h20 q20 => ?_⟩
            rw [q20]
            exact H _ (z16.hi (Nat.le_refl _) (by omega))
        · rw [he] at H
          have zz : stF h0 g3 T N ee := y2.fl w3 f3 o3 (by simp only; omega)
          have kk := e4f g2 g3 f3 (k46 g2 _ y2 rfl)
          refine c_want_f (by omega) hs zz.1 zz.2.2.1 ⟨rfl, zz.1, c_wnum_f (by omega) hs zz.1 zz.2.2.1 ⟨_, rfl, zz.1, zz.2.2.2.iso, zz.2.2.2.iso, ?_⟩⟩
          obtain ⟨a1, a2⟩ := zz.2.2.2.arr 5 (Or.inl rfl)
          rw [a1, zz.2.2.2.hd, Int.toNat_natCast]
          refine ⟨⟨by omega, by rw [Int.toNat_natCast, a2], kk.1, by rw [Int.toNat_natCast, a2]; simp; omega⟩, hi_wo (by omega), fun h11 q11 => ?_⟩
          have z11 : stF h0 h11 T N ee := by rw [q11]; exact zz.hi (by omega) (by omega)
          have k11 : h11.2.2.2 h0.1 4 = g3.2.2.2 h0.1 4 := by rw [q11, put_ne (by omega)]
          refine ⟨z11.2.2.2.iso, z11.2.2.2.iso, ?_⟩
          obtain ⟨b1, b2⟩ := z11.2.2.2.arr 6 (Or.inr rfl)
          rw [b1, z11.2.2.2.hd, Int.toNat_natCast, k11]
          refine ⟨⟨by omega, by rw [Int.toNat_natCast, b2], kk.1, by rw [Int.toNat_natCast, b2]; simp; omega⟩, hi_wo (by omega), fun h16 q16 => ?_⟩
          have z16 : stF h0 h16 T N ee := by rw [q16]; exact z11.hi (by omega) (by omega)
          refine ⟨z16.2.2.2.iso, z16.2.2.2.iso, ?_⟩
          rw [z16.2.2.2.hd]
          refine ⟨hi_wr h133 4, fun h20 q20 => ?_⟩
          rw [q20]
          exact H _ (z16.hi (Nat.le_refl _) (by omega))
      refine c_num hs w2 y2.2.1 o2.1 ⟨_, rfl, w2, fun c => ?_, fun c => ⟨yd.iso, ?_⟩⟩
      · have q25 := ite10.mp c
        rw [if_neg (fun z => q25 z.1)] at H
        exact s89 H
      · have q25 := yes10 c
        rw [yd.2.2.2.1, o2.1.2.2.2.2 q25]
        refine c_told (a := ds.1) hs w2 yd.2.2.2.2.1 yd.2.2.2.2.2.1 yd.2.2.2.2.2.2.2.1 ydd.2.1.2.2.2 (fun s hs => (ydd.2.2.2.1 s hs).1) (by omega) ⟨_, rfl, w2, fun c => ?_, fun c => ?_⟩
        · rw [if_neg (fun z => by rw [z.2] at c; omega)] at H
          exact s89 H
        · have b1 : btL ds.1 (tkN T N p1 0) 6 0 = 1 := by
            rcases btL_t (a := ds.1) (b := tkN T N p1 0) 6 0 with z | ⟨z, _⟩
            · exact z
            · exact absurd z c
          rw [if_pos ⟨q25, b1⟩] at H
          exact c_ref (M := 900) hs w2 y2.2.1 o2 (by omega) (by have := y2.2.2.2.2.2; omega) (fun g3 w3 f3 o3 => ⟨rfl, w3, f89 g3 _ (y2.fl w3 f3 o3 (by simp only; omega)) (e4f g2 g3 f3 (k46 g2 _ y2 rfl)) H⟩)
    · have q5 : tkK T N (tkE T N p) ≠ 5 := q
      have hq : wN T N (tkE T N p) 5 = .inl (eF T N (tkE T N p) 2) := by unfold wN; rw [if_neg q5]
      rw [hq] at H
      have z : stF h0 g2 T N (eF T N (tkE T N p) 2) := y.fl w2 f2 o2 (by simp only; omega)
      have kk := e4f g g2 f2 (k46 g _ y rfl)
      obtain ⟨pp, cu⟩ := z.2.2.1.1
      refine c_num hs w2 z.2.1 cu ⟨_, rfl, w2, fun _ => f89 g2 _ z kk H, fun _ => ⟨z.2.2.2.iso, ?_⟩⟩
      -- a number stands here all the same: what was told may be looked up
      have told : ∀ (b : Int) (K : Int → Prop), (∀ v, K v) → am_R (am_prog scr) D f_House_hasTold 0 [some (.inr (.inr (g2.2.2.2 2 3))), some (.inl (b)), none] [] g2 (fun v g9 => ∃ r11, v = some (.inl r11) ∧ wf g9 ∧ ((r11 = 0 → (am_R (am_prog scr) (D + 1) f_Reader_readSleeper 89 [some (.inr (.inr (((2) : Nat) : Int))), none, none] [] g9 Q)) ∧ (¬ (r11 = 0) → (am_R (am_prog scr) D f_Tokens_refuse 0 [some (.inr (.inr (((3) : Nat) : Int))), some (.inl (3))] [] g9 (fun v g12 => v = none ∧ wf g12 ∧ (am_R (am_prog scr) (D + 1) f_Reader_readSleeper 89 [some (.inr (.inr (((2) : Nat) : Int))), none, none] [] g12 Q)))))) := by
        intro b K _
        rw [z.2.2.2.2.2.2.1]
        have yd := y.2.2.2.1
        have ydd := y.2.2.2.2.1
        have hi : ∀ c, 133 ≤ c → g2.2.2.2 c = g.2.2.2 c := fun c hc => f2.hi (by decide) RCF_lo hc
        refine c_told (a := ds.1) hs w2 z.2.2.2.2.2.2.2.1 z.2.2.2.2.2.2.2.2.1 z.2.2.2.2.2.2.2.2.2.2.1 (by rw [hi _ h133]; exact ydd.2.1.2.2.2) (fun s hs => by rw [hi _ (by omega)]; exact (ydd.2.2.2.1 s hs).1) (by omega) ⟨_, rfl, w2, fun _ => f89 g2 _ z kk H, fun _ => ?_⟩
        exact c_ref_f hs w2 z.2.2.1 ⟨rfl, w2, f89 g2 _ z kk H⟩
      exact told _ (fun _ => True) (fun _ => trivial)
end LE
