/-! a text as it is read: what a draft keeps -/
def slP (b : Nat → Int) (m : Int) : Prop := (0 ≤ b 4 ∧ b 4 ≤ m) ∧ (∀ s, s < 6 → (0 ≤ b (16 + s) ∧ b (16 + s) < 6) ∧ (0 ≤ b (22 + s) ∧ b (22 + s) < 10)) ∧ (∀ s : Nat, s < 6 → (s : Int) < b 4 → b (16 + s) < m) ∧ ∀ s t : Nat, s < 6 → t < 6 → (s : Int) < b 4 → (t : Int) < b 4 → s ≠ t → b (16 + s) ≠ b (16 + t)
section TI
variable {T : Nat → Int} {N p q : Nat} {a b : Nat → Int} {ds : DS}
theorem dsA.sl (x : dsA a p) (h : ∀ j, j = 4 ∨ (16 ≤ j ∧ j < 28) → b j = a j) : slP b (a 1) := by
  obtain ⟨x1, x2, x3, x4, x5, x6, x7, _⟩ := x
  refine ⟨by rw [h 4 (by omega)]; exact x4, fun s hs => by rw [h (16 + s) (by omega), h (22 + s) (by omega)]; exact x5 s hs, fun s hs hl => ?_, fun s t hs ht ls lt n => ?_⟩
  · rw [h 4 (by omega)] at hl
    rw [h (16 + s) (by omega)]; exact x6 s hs hl
  · rw [h 4 (by omega)] at ls lt
    rw [h (16 + s) (by omega), h (16 + t) (by omega)]; exact x7 s t hs ht ls lt n
theorem dsA.set (x : dsA a p) (h1 : ∀ j, (1 ≤ j ∧ j ≤ 3) ∨ j = 14 ∨ j = 15 ∨ j = 29 ∨ j = 30 → b j = a j) (hs : slP b (a 1)) (h5 : 0 ≤ b 5 ∧ b 5 < a 2) (h12 : 0 ≤ b 12 ∧ b 12 < 6 ∧ (b 12 < b 4 ∨ (b 4 = 0 ∧ b 12 = 0))) (h13 : 0 ≤ b 13 ∧ b 13 < a 2) (h28 : 0 ≤ b 28 ∧ b 28 < 10) (h0 : 1 ≤ b 0 ∧ b 0 ≤ (q : Int)) (h211 : 0 ≤ b 211 ∧ b 211 ≤ (q : Int)) (hq : p ≤ q) : dsA b q := by
  obtain ⟨x1, x2, x3, x4, x5, x6, x7, x8, x9, x10, x11, x12, x13, x14, x15⟩ := x
  obtain ⟨s1, s2, s3, s4⟩ := hs
  refine ⟨by rw [h1 1 (by omega)]; exact x1, by rw [h1 2 (by omega)]; exact x2, by rw [h1 3 (by omega)]; exact x3, by rw [h1 1 (by omega)]; exact s1, s2, by rw [h1 1 (by omega)]; exact s3, s4, by rw [h1 2 (by omega)]; exact h5, h12, by rw [h1 2 (by omega)]; exact h13, by rw [h1 14 (by omega), h1 15 (by omega), h1 29 (by omega), h1 30 (by omega)]; exact x11, h28, h0, h211, by omega⟩
theorem apC_lo {r : List Int} {j : Nat} (h : j < 211) : apC a r j = a j := by
  unfold apC
  rw [if_neg (by omega), if_neg (by omega)]
theorem apC_mid {r : List Int} {j : Nat} (h : 212 ≤ j ∧ j < 212 + (a 211).toNat) : apC a r j = a j := by
  unfold apC
  rw [if_neg (by omega), if_neg (by omega)]
theorem apC_n {r : List Int} : apC a r 211 = (((a 211).toNat + r.length : Nat) : Int) := by
  unfold apC
  rw [if_neg (by omega), if_pos rfl]
theorem apC_hi {r : List Int} {j : Nat} (h : j < r.length) : apC a r (212 + (a 211).toNat + j) = r.getD j 0 := by
  unfold apC
  rw [if_pos (by omega), show 212 + (a 211).toNat + j - (212 + (a 211).toNat) = j by omega]
theorem getD_map {r : List Int} {f : Nat → Int} (h : ∀ j, j < r.length → f j = r.getD j 0) : (List.range r.length).map f = r := by
  refine List.ext_getElem (by simp) (fun i h1 h2 => ?_)
  simp only [List.getElem_map, List.getElem_range]
  rw [h i h2, List.getD_eq_getElem?_getD, List.getElem?_eq_getElem h2]
  rfl
theorem lawS_I {i : Nat} {x : PX} {nd : Nat} {tv : Bool} (hi : i < 2) (hN : N ≤ 900) (hn : nd ≤ 64) (I : dsI ds p) (hq : p < q) (g : gdX N nd tv q x) : dsI (lawS ds i x) x.1 := by
  obtain ⟨A, L0, L1⟩ := I
  have A0 := A
  obtain ⟨x1, x2, x3, x4, x5, x6, x7, x8, x9, x10, x11, x12, x13, x14, x15⟩ := A0
  have lc := lawC_of g hN hn
  obtain ⟨g1, g2, g3, g4, g5⟩ := g
  have lo : ∀ j, j < 211 → j ≠ 6 + i → j ≠ 8 + i → j ≠ 10 + i → (lawS ds i x).1 j = ds.1 j := fun j h1 h2 h3 h4 => by
    simp only [lawS]
    rw [up_ne h4, up_ne h3, up_ne h2, apC_lo h1]
  have e211 : (lawS ds i x).1 211 = (((ds.1 211).toNat + x.2.1.length : Nat) : Int) := by
    simp only [lawS]
    rw [up_ne (by omega), up_ne (by omega), up_ne (by omega), apC_n]
  have mid : ∀ j : Nat, 212 ≤ j → (j : Int) < 212 + ds.1 211 → (lawS ds i x).1 j = ds.1 j := fun j h1 h2 => by
    simp only [lawS]
    rw [up_ne (by omega), up_ne (by omega), up_ne (by omega), apC_mid (by omega)]
  have keep : ∀ k, k < 2 → k ≠ i → dsL ds.1 ds.2 k → dsL (lawS ds i x).1 (lawS ds i x).2 k := by
    intro k hk hne L
    have L2 := L.keep (b := (lawS ds i x).1) (lo _ (by omega) (by omega) (by omega) (by omega)) (lo _ (by omega) (by omega) (by omega) (by omega)) (lo _ (by omega) (by omega) (by omega) (by omega)) (by rw [e211]; omega) mid
    unfold dsL at L2 ⊢
    have el : (lawS ds i x).2 k = ds.2 k := by simp only [lawS]; rw [if_neg hne]
    rw [el]
    exact L2
  have new : dsL (lawS ds i x).1 (lawS ds i x).2 i := by
    have e6 : (lawS ds i x).1 (6 + i) = 1 := by simp only [lawS]; rw [up_ne (by omega), up_ne (by omega), up_eq]
    have e8 : (lawS ds i x).1 (8 + i) = ds.1 211 := by simp only [lawS]; rw [up_ne (by omega), up_eq]
    have e10 : (lawS ds i x).1 (10 + i) = (x.2.1.length : Int) := by simp only [lawS]; rw [up_eq]
    have el : (lawS ds i x).2 i = (x.2.2.1, x.2.2.2.1 0, x.2.2.2.2) := by simp only [lawS]; rw [if_pos trivial]
    have ec : codesOf (lawS ds i x).1 i = x.2.1 := by
      unfold codesOf
      rw [e10, e8, Int.toNat_natCast]
      refine getD_map (fun j hj => ?_)
      simp only [lawS]
      rw [up_ne (by omega), up_ne (by omega), up_ne (by omega), apC_hi hj]
    refine ⟨Or.inr e6, fun _ => ?_⟩
    rw [el]
    refine ⟨⟨by rw [e8]; omega, by rw [e10]; omega, by rw [e8, e10]; omega, fun env he => ?_⟩, by rw [e8, e10, e211]; omega, lc⟩
    rw [ec]
    obtain ⟨a1, a2, a3, a4⟩ := g5 env he
    refine ⟨a1, ?_⟩
    have := a3 [] []
    rw [List.append_nil] at this
    rw [this]
    rfl
  refine ⟨A.set (fun j hj => lo j (by omega) (by omega) (by omega) (by omega)) (A.sl (fun j hj => lo j (by omega) (by omega) (by omega) (by omega))) (by rw [lo 5 (by omega) (by omega) (by omega) (by omega)]; exact x8) ?_ (by rw [lo 13 (by omega) (by omega) (by omega) (by omega)]; exact x10) (by rw [lo 28 (by omega) (by omega) (by omega) (by omega)]; exact x12) ?_ ?_ (by omega), ?_, ?_⟩
  · rw [lo 12 (by omega) (by omega) (by omega) (by omega), lo 4 (by omega) (by omega) (by omega) (by omega)]; exact x9
  · rw [lo 0 (by omega) (by omega) (by omega) (by omega)]; omega
  · rw [e211]; omega
  · by_cases c : i = 0
    · subst c; exact new
    · exact keep 0 (by omega) (fun z => c z.symm) L0
  · by_cases c : i = 1
    · subst c; exact new
    · exact keep 1 (by omega) (fun z => c z.symm) L1
/-- what isn't a law's leaves the laws -/
theorem dsL.up1 {k : Nat} {v : Int} {i : Nat} (hi : i < 2) (L : dsL ds.1 ds.2 i) (hk : k < 6 ∨ 12 ≤ k) (hk2 : k < 211) : dsL (up ds.1 k v) ds.2 i := L.keep (up_ne (by omega)) (up_ne (by omega)) (up_ne (by omega)) (by rw [up_ne (by omega)]; omega) (fun j h1 h2 => up_ne (by omega))
theorem body_I (t : ∀ k, 0 ≤ T k ∧ T k < 256) (hN : N ≤ 900) (hp : p ≤ N) (I : dsI ds p) {z : DS × Nat} (h : bodyF T N ds p = .inr z) : dsI z.1 z.2 ∧ p < z.2 ∧ z.2 ≤ N := by
  obtain ⟨A, L0, L1⟩ := I
  have A0 := A
  obtain ⟨x1, x2, x3, x4, x5, x6, x7, x8, x9, x10, x11, x12, x13, x14, x15⟩ := A0
  unfold bodyF at h
  by_cases c1 : tkK T N p = 4
  · rw [if_pos c1] at h
    by_cases c2 : ds.1 4 = ds.1 1
    · rw [if_pos c2] at h; simp at h
    · rw [if_neg c2] at h
      obtain ⟨p1, h1, h⟩ := eB_inr h
      obtain ⟨k1, rfl⟩ := wN_inr h1
      have g0 := tk_gt hp (show tkK T N p ≠ 26 by omega)
      have g1 := tk_gt g0.2 (show tkK T N (tkE T N p) ≠ 26 by omega)
      generalize tkE T N (tkE T N p) = p1 at *
      by_cases c3 : tkK T N p1 = 25 ∧ btL ds.1 (tkN T N p1 0) 6 0 = 1
      · rw [if_pos c3] at h; simp at h
      · rw [if_neg c3] at h
        obtain ⟨b, h2, h⟩ := eB_inr h
        obtain ⟨k2, b1, b2, b3⟩ := nN_inr h2
        obtain ⟨p3, h3, h⟩ := eB_inr h
        obtain ⟨k3, rfl⟩ := wN_inr h3
        obtain ⟨r, h4, h⟩ := eB_inr h
        obtain ⟨k4, r1, r2, r3⟩ := nN_inr h4
        simp only [Sum.inr.injEq] at h
        subst h
        have g2 := tk_gt g1.2 (show tkK T N p1 ≠ 26 by omega)
        rw [← b3] at g2
        have g3 := tk_gt g2.2 (show tkK T N b.2 ≠ 26 by omega)
        have g4 := tk_gt g3.2 (show tkK T N (tkE T N b.2) ≠ 26 by omega)
        rw [← r3] at g4
        have nt : ∀ k : Nat, k < 6 → (k : Int) < ds.1 4 → ds.1 (16 + k) ≠ b.1 := by
          rcases btL_t (a := ds.1) (b := tkN T N p1 0) 6 0 with z | ⟨_, z⟩
          · exact absurd ⟨k2, z⟩ c3
          · intro k hk hl
            rw [b2]
            exact z k (by omega) (by omega) hl
        obtain ⟨s, hs⟩ : ∃ s : Nat, ds.1 4 = (s : Int) := ⟨(ds.1 4).toNat, by omega⟩
        have es : (ds.1 4).toNat = s := by omega
        have e4 : (slS ds b.1 r.1).1 4 = (s : Int) + 1 := by simp only [slS]; rw [up_eq, hs]
        have eb : (slS ds b.1 r.1).1 (16 + s) = b.1 := by simp only [slS]; rw [es, up_ne (by omega), up_ne (by omega), up_eq]
        have er : (slS ds b.1 r.1).1 (22 + s) = r.1 := by simp only [slS]; rw [es, up_ne (by omega), up_eq]
        have eo : ∀ j, j ≠ 4 → j ≠ 16 + s → j ≠ 22 + s → (slS ds b.1 r.1).1 j = ds.1 j := fun j h1 h2 h3 => by simp only [slS]; rw [es, up_ne h1, up_ne h3, up_ne h2]
        have s6 : s < 6 := by omega
        have ebed : ∀ u : Nat, u < 6 → u ≠ s → (slS ds b.1 r.1).1 (16 + u) = ds.1 (16 + u) := fun u h1 h2 => eo _ (by omega) (by omega) (by omega)
        refine ⟨⟨A.set (fun j hj => eo j (by omega) (by omega) (by omega)) ⟨by rw [e4]; omega, fun u hu => ?_, fun u hu hl => ?_, fun u v hu hv lu lv n => ?_⟩ (by rw [eo 5 (by omega) (by omega) (by omega)]; exact x8) ?_ (by rw [eo 13 (by omega) (by omega) (by omega)]; exact x10) ?_ ?_ ?_ (by omega), ?_, ?_⟩, by omega, by omega⟩
        · refine ⟨?_, ?_⟩
          · by_cases c : u = s
            · subst c; rw [eb]; omega
            · rw [ebed u hu c]; exact (x5 u hu).1
          · by_cases c : u = s
            · subst c; rw [er]; omega
            · rw [eo (22 + u) (by omega) (by omega) (by omega)]; exact (x5 u hu).2
        · by_cases c : u = s
          · subst c; rw [eb]; omega
          · rw [e4] at hl
            rw [ebed u hu c]; exact x6 u hu (by omega)
        · rw [e4] at lu lv
          by_cases c : u = s
          · subst c
            rw [eb, ebed v hv (fun z => n z.symm)]
            exact fun z => nt v hv (by omega) z.symm
          · by_cases c' : v = s
            · subst c'
              rw [eb, ebed u hu c]
              exact nt u hu (by omega)
            · rw [ebed u hu c, ebed v hv c']
              exact x7 u v hu hv (by omega) (by omega) n
        · rw [eo 12 (by omega) (by omega) (by omega), e4]; omega
        · by_cases c : s = 6
          · omega
          · rw [eo 28 (by omega) (by omega) (by omega)]; exact x12
        · rw [eo 0 (by omega) (by omega) (by omega)]; omega
        · rw [eo 211 (by omega) (by omega) (by omega)]; omega
        · exact L0.keep (eo _ (by omega) (by omega) (by omega)) (eo _ (by omega) (by omega) (by omega)) (eo _ (by omega) (by omega) (by omega)) (by rw [eo 211 (by omega) (by omega) (by omega)]; omega) (fun j h1 h2 => eo j (by omega) (by omega) (by omega))
        · exact L1.keep (eo _ (by omega) (by omega) (by omega)) (eo _ (by omega) (by omega) (by omega)) (eo _ (by omega) (by omega) (by omega)) (by rw [eo 211 (by omega) (by omega) (by omega)]; omega) (fun j h1 h2 => eo j (by omega) (by omega) (by omega))
  · rw [if_neg c1] at h
    by_cases c2 : tkK T N p = 7
    · rw [if_pos c2] at h
      have g0 := tk_gt hp (show tkK T N p ≠ 26 by omega)
      obtain ⟨l, h1, h⟩ := eB_inr h
      obtain ⟨k1, l1, l2, l3⟩ := nN_inr h1
      obtain ⟨p2, h2, h⟩ := eB_inr h
      obtain ⟨k2, rfl⟩ := wN_inr h2
      obtain ⟨r, h3, h⟩ := eB_inr h
      obtain ⟨k3, r1, r2, r3⟩ := nN_inr h3
      simp only [Sum.inr.injEq] at h
      subst h
      have g1 := tk_gt g0.2 (show tkK T N (tkE T N p) ≠ 26 by omega)
      rw [← l3] at g1
      have g2 := tk_gt g1.2 (show tkK T N l.2 ≠ 26 by omega)
      have g3 := tk_gt g2.2 (show tkK T N (tkE T N l.2) ≠ 26 by omega)
      rw [← r3] at g3
      have eo : ∀ j, j ≠ 12 → j ≠ 13 → up (up ds.1 12 l.1) 13 r.1 j = ds.1 j := fun j h1 h2 => by rw [up_ne h2, up_ne h1]
      show (dsA (up (up ds.1 12 l.1) 13 r.1) r.2 ∧ dsL (up (up ds.1 12 l.1) 13 r.1) ds.2 0 ∧ dsL (up (up ds.1 12 l.1) 13 r.1) ds.2 1) ∧ _ < r.2 ∧ r.2 ≤ N
      refine ⟨⟨A.set (fun j hj => eo j (by omega) (by omega)) (A.sl (fun j hj => eo j (by omega) (by omega))) (by rw [eo 5 (by omega) (by omega)]; exact x8) ?_ (by rw [up_eq]; omega) (by rw [eo 28 (by omega) (by omega)]; exact x12) (by rw [eo 0 (by omega) (by omega)]; omega) (by rw [eo 211 (by omega) (by omega)]; omega) (by omega), ?_, ?_⟩, by omega, by omega⟩
      · rw [up_ne (show 12 ≠ 13 by omega), up_eq, eo 4 (by omega) (by omega)]; omega
      · exact (L0.up1 (k := 12) (v := l.1) (by omega) (by omega) (by omega)).keep (up_ne (by omega)) (up_ne (by omega)) (up_ne (by omega)) (by rw [up_ne (show 211 ≠ 13 by omega)]; omega) (fun j h1 h2 => up_ne (by omega))
      · exact (L1.up1 (k := 12) (v := l.1) (by omega) (by omega) (by omega)).keep (up_ne (by omega)) (up_ne (by omega)) (up_ne (by omega)) (by rw [up_ne (show 211 ≠ 13 by omega)]; omega) (fun j h1 h2 => up_ne (by omega))
    · rw [if_neg c2] at h
      by_cases c3 : tkK T N p = 9
      · rw [if_pos c3] at h
        have g0 := tk_gt hp (show tkK T N p ≠ 26 by omega)
        obtain ⟨r, h3, h⟩ := eB_inr h
        obtain ⟨k3, r1, r2, r3⟩ := nN_inr h3
        simp only [Sum.inr.injEq] at h
        subst h
        have g1 := tk_gt g0.2 (show tkK T N (tkE T N p) ≠ 26 by omega)
        rw [← r3] at g1
        have eo : ∀ j, j ≠ 5 → up ds.1 5 r.1 j = ds.1 j := fun j h1 => up_ne h1
        show (dsA (up ds.1 5 r.1) r.2 ∧ dsL (up ds.1 5 r.1) ds.2 0 ∧ dsL (up ds.1 5 r.1) ds.2 1) ∧ _ < r.2 ∧ r.2 ≤ N
        refine ⟨⟨A.set (fun j hj => eo j (by omega)) (A.sl (fun j hj => eo j (by omega))) (by rw [up_eq]; omega) (by rw [eo 12 (by omega), eo 4 (by omega)]; exact x9) (by rw [eo 13 (by omega)]; exact x10) (by rw [eo 28 (by omega)]; exact x12) (by rw [eo 0 (by omega)]; omega) (by rw [eo 211 (by omega)]; omega) (by omega), L0.up1 (by omega) (by omega) (by omega), L1.up1 (by omega) (by omega) (by omega)⟩, by omega, by omega⟩
      · rw [if_neg c3] at h
        by_cases c4 : tkK T N p = 10
        · rw [if_pos c4] at h
          have g0 := tk_gt hp (show tkK T N p ≠ 26 by omega)
          obtain ⟨r, h3, h⟩ := eB_inr h
          obtain ⟨k3, r1, r2, r3⟩ := nN_inr h3
          simp only [Sum.inr.injEq] at h
          subst h
          have g1 := tk_gt g0.2 (show tkK T N (tkE T N p) ≠ 26 by omega)
          rw [← r3] at g1
          have eo : ∀ j, j ≠ 28 → up ds.1 28 r.1 j = ds.1 j := fun j h1 => up_ne h1
          show (dsA (up ds.1 28 r.1) r.2 ∧ dsL (up ds.1 28 r.1) ds.2 0 ∧ dsL (up ds.1 28 r.1) ds.2 1) ∧ _ < r.2 ∧ r.2 ≤ N
          refine ⟨⟨A.set (fun j hj => eo j (by omega)) (A.sl (fun j hj => eo j (by omega))) (by rw [eo 5 (by omega)]; exact x8) (by rw [eo 12 (by omega), eo 4 (by omega)]; exact x9) (by rw [eo 13 (by omega)]; exact x10) (by rw [up_eq]; omega) (by rw [eo 0 (by omega)]; omega) (by rw [eo 211 (by omega)]; omega) (by omega), L0.up1 (by omega) (by omega) (by omega), L1.up1 (by omega) (by omega) (by omega)⟩, by omega, by omega⟩
        · rw [if_neg c4] at h
          have law : ∀ i, i < 2 → tkK T N p ≠ 26 → eB (wN T N (tkE T N p) 31) (fun p1 => eB (lawF T N p1) (fun x => (.inr (lawS ds i x, x.1) : PE ⊕ (DS × Nat)))) = .inr z → dsI z.1 z.2 ∧ p < z.2 ∧ z.2 ≤ N := by
            intro i hi k26 h
            have g0 := tk_gt hp k26
            obtain ⟨p1, h1, h⟩ := eB_inr h
            obtain ⟨k1, rfl⟩ := wN_inr h1
            have g1 := tk_gt g0.2 (show tkK T N (tkE T N p) ≠ 26 by omega)
            obtain ⟨x, h2, h⟩ := eB_inr h
            simp only [Sum.inr.injEq] at h
            subst h
            have gx := lawF_gd t g1.2 h2
            exact ⟨lawS_I hi hN (by omega) ⟨A, L0, L1⟩ (by omega) gx, by have := gx.1; show p < x.1; omega, gx.2.1⟩
          by_cases c5 : tkK T N p = 11
          · rw [if_pos c5] at h
            exact law 0 (by omega) (by omega) h
          · rw [if_neg c5] at h
            by_cases c6 : tkK T N p = 12
            · rw [if_pos c6] at h
              exact law 1 (by omega) (by omega) h
            · rw [if_neg c6] at h
              simp at h
theorem clos_I (hN : N ≤ 900) {r z : DS × Nat} (hp : r.2 ≤ N) (I : dsI r.1 r.2) (h : closF T N r = .inr z) : dsI z.1 z.2 ∧ r.2 < z.2 ∧ z.2 ≤ N := by
  obtain ⟨A, L0, L1⟩ := I
  have A0 := A
  obtain ⟨x1, x2, x3, x4, x5, x6, x7, x8, x9, x10, x11, x12, x13, x14, x15⟩ := A0
  obtain ⟨p1, h1, h⟩ := eB_inr h
  obtain ⟨k1, rfl⟩ := wN_inr h1
  simp only [Sum.inr.injEq] at h
  subst h
  have g1 := tk_gt hp (show tkK T N r.2 ≠ 26 by omega)
  have eo : ∀ j, j ≠ 0 → up r.1.1 0 (r.1.1 0 + 1) j = r.1.1 j := fun j h1 => up_ne h1
  show (dsA (up r.1.1 0 (r.1.1 0 + 1)) (tkE T N r.2) ∧ dsL (up r.1.1 0 (r.1.1 0 + 1)) r.1.2 0 ∧ dsL (up r.1.1 0 (r.1.1 0 + 1)) r.1.2 1) ∧ _ < tkE T N r.2 ∧ tkE T N r.2 ≤ N
  exact ⟨⟨A.set (fun j hj => eo j (by omega)) (A.sl (fun j hj => eo j (by omega))) (by rw [eo 5 (by omega)]; exact x8) (by rw [eo 12 (by omega), eo 4 (by omega)]; exact x9) (by rw [eo 13 (by omega)]; exact x10) (by rw [eo 28 (by omega)]; exact x12) (by rw [up_eq]; omega) (by rw [eo 211 (by omega)]; omega) (by omega), L0.up1 (by omega) (by omega) (by omega), L1.up1 (by omega) (by omega) (by omega)⟩, by omega, by omega⟩
theorem line_I (t : ∀ k, 0 ≤ T k ∧ T k < 256) (hN : N ≤ 900) (hp : p ≤ N) (I : dsI ds p) {z : DS × Nat} (h : lineF T N ds p = .inr z) : dsI z.1 z.2 ∧ p < z.2 ∧ z.2 ≤ N := by
  obtain ⟨r, h1, h⟩ := eB_inr h
  obtain ⟨i1, i2, i3⟩ := body_I t hN hp I h1
  obtain ⟨j1, j2, j3⟩ := clos_I hN i3 i1 h
  exact ⟨j1, by omega, j3⟩
end TI
