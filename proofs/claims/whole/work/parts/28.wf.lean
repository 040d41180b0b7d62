/-! the cells that stand from the start on -/
def wk_l : List (Nat × Nat) := [(21, 19), (3, 900), (15, 4), (19, 8), (3, 0), (1, 900), (11, 14), (1, 6), (1, 6), (17, 8), (1, 6480), (1, 6480), (1, 6480), (1, 6480), (1, 7), (1, 64), (1, 180), (6, 4), (5, 2), (4, 2), (1, 37), (11, 14), (1, 6), (1, 6), (14, 9), (1, 6), (1, 6), (14, 9), (1, 6), (1, 6), (10, 13), (14, 9), (1, 6), (1, 6), (1, 180), (1, 180), (1, 180), (1, 180), (1, 181), (1, 180), (16, 3), (1, 185), (1, 185), (18, 5), (2, 185), (2, 185), (1, 185), (7, 9), (2, 185), (2, 185), (2, 185), (2, 185), (2, 185), (2, 185), (2, 185), (2, 185), (2, 185), (13, 7), (14, 9), (1, 6), (1, 6), (1, 6), (1, 6), (12, 3), (5, 10), (14, 9), (1, 6), (1, 6), (14, 9), (1, 6), (1, 6), (14, 9), (1, 6), (1, 6), (14, 9), (1, 6), (1, 6), (14, 9), (1, 6), (1, 6), (14, 9), (1, 6), (1, 6), (14, 9), (1, 6), (1, 6), (14, 9), (1, 6), (1, 6), (14, 9), (1, 6), (1, 6), (14, 9), (1, 6), (1, 6), (20, 4), (2, 40), (20, 4), (2, 40), (20, 4), (2, 40), (20, 4), (2, 40), (14, 9), (1, 6), (1, 6), (14, 9), (1, 6), (1, 6), (22, 40), (1, 3336), (4, 2), (1, 900), (1, 1112), (1, 900), (1, 7), (1, 18), (1, 361), (1, 360), (1, 360), (1, 2520), (1, 360), (1, 360), (4, 360), (2, 360), (2, 360), (1, 6), (1, 6), (2, 3240), (1, 10), (1, 4), (1, 4), (2, 160)]
/-- (object, place, what it refers to): never changed -/
def wr_l : List (Nat × Nat × Nat) := [(0, 0, 1), (0, 6, 2), (0, 7, 9), (0, 8, 30), (0, 9, 40), (0, 10, 43), (0, 11, 57), (0, 12, 24), (0, 13, 27), (0, 14, 63), (0, 15, 17), (0, 16, 18), (0, 17, 19), (0, 18, 20), (2, 0, 3), (2, 1, 5), (9, 0, 10), (9, 1, 11), (9, 2, 12), (9, 3, 13), (9, 4, 14), (9, 5, 15), (9, 6, 16), (17, 0, 95), (17, 1, 97), (17, 2, 99), (17, 3, 101), (18, 0, 103), (18, 1, 106), (24, 1, 25), (24, 2, 26), (27, 1, 28), (27, 2, 29), (30, 0, 9), (30, 1, 31), (30, 2, 34), (30, 3, 35), (30, 6, 36), (30, 8, 37), (30, 9, 38), (30, 10, 39), (31, 1, 32), (31, 2, 33), (40, 0, 30), (40, 1, 41), (40, 2, 42), (43, 0, 30), (43, 3, 46), (43, 4, 47), (47, 0, 48), (47, 1, 49), (47, 2, 50), (47, 3, 51), (47, 4, 52), (47, 5, 53), (47, 6, 54), (47, 7, 55), (47, 8, 56), (57, 0, 9), (57, 1, 58), (57, 2, 61), (57, 3, 62), (58, 1, 59), (58, 2, 60), (63, 0, 64), (64, 0, 65), (64, 1, 68), (64, 2, 71), (64, 3, 74), (64, 4, 77), (64, 5, 80), (64, 6, 83), (64, 7, 86), (64, 8, 89), (64, 9, 92), (65, 1, 66), (65, 2, 67), (68, 1, 69), (68, 2, 70), (71, 1, 72), (71, 2, 73), (74, 1, 75), (74, 2, 76), (77, 1, 78), (77, 2, 79), (80, 1, 81), (80, 2, 82), (83, 1, 84), (83, 2, 85), (86, 1, 87), (86, 2, 88), (89, 1, 90), (89, 2, 91), (92, 1, 93), (92, 2, 94), (95, 3, 96), (97, 3, 98), (99, 3, 100), (101, 3, 102), (103, 1, 104), (103, 2, 105), (106, 1, 107), (106, 2, 108), (109, 1, 110), (109, 2, 111), (109, 3, 112), (109, 4, 113), (109, 15, 114), (109, 16, 115), (109, 17, 116), (109, 20, 117), (109, 21, 118), (109, 24, 119), (109, 25, 120), (109, 26, 121), (109, 27, 122), (109, 28, 123), (109, 30, 124), (109, 31, 125), (109, 32, 126), (109, 33, 127), (109, 35, 128), (109, 36, 129), (109, 37, 130), (109, 38, 131), (109, 39, 132)]
def wk (i : Nat) : Nat × Nat := wk_l.getD i (0, 0)
/-- the cells of the start are there, with their kinds and their lasting references -/
def wf (h : am_H) : Prop := 133 ≤ h.1 ∧ (∀ i, i < 133 → h.2.2.1 i = wk i) ∧ ∀ q ∈ wr_l, h.2.2.2 q.1 q.2.1 = (q.2.2 : Int)
theorem wf.k {h : am_H} (hw : wf h) {i : Nat} {x : Nat × Nat} (hi : i < 133) (hx : wk i = x) : h.2.2.1 i = x := (hw.2.1 i hi).trans hx
theorem wf.o {h : am_H} (hw : wf h) {i c n : Nat} (hi : i < 133) (hx : wk i = (c + 10, n)) : am_isO h ((i : Nat) : Int) c := ⟨by omega, by rw [Int.toNat_natCast, hw.k hi hx]⟩
theorem wf.a {h : am_H} (hw : wf h) {i t n : Nat} {j : Int} (hi : i < 133) (hx : wk i = (t, n)) (h0 : 0 ≤ j) (h1 : j < (n : Int)) : am_inA h ((i : Nat) : Int) t j := ⟨by omega, by rw [Int.toNat_natCast, hw.k hi hx], h0, by rw [Int.toNat_natCast, hw.k hi hx]; exact h1⟩
theorem wf.l {h : am_H} (hw : wf h) {i t n : Nat} (hi : i < 133) (hx : wk i = (t, n)) (ht : 1 ≤ t ∧ t ≤ 6 ∧ n ≤ 1000000) : 0 ≤ ((i : Nat) : Int) ∧ 1 ≤ (h.2.2.1 ((i : Nat) : Int).toNat).1 ∧ (h.2.2.1 ((i : Nat) : Int).toNat).1 ≤ 6 ∧ (h.2.2.1 ((i : Nat) : Int).toNat).2 ≤ 1000000 := by
  rw [Int.toNat_natCast, hw.k hi hx]
  exact ⟨by omega, ht.1, ht.2.1, ht.2.2⟩
theorem wf.r {h : am_H} (hw : wf h) {a k v : Nat} (hq : (a, k, v) ∈ wr_l) : h.2.2.2 ((a : Nat) : Int).toNat k = ((v : Nat) : Int) := by rw [Int.toNat_natCast]; exact hw.2.2 _ hq
theorem wf.put {h : am_H} (hw : wf h) {a k : Nat} {x : Int} (hq : ∀ q ∈ wr_l, ¬ (q.1 = a ∧ q.2.1 = k)) : wf (am_put h a k x) := ⟨hw.1, hw.2.1, fun q hq2 => by
  show (if q.1 = a ∧ q.2.1 = k then x else h.2.2.2 q.1 q.2.1) = _
  rw [if_neg (hq q hq2)]
  exact hw.2.2 q hq2⟩
def wr_o : List Nat := wr_l.map (fun q => q.1)
theorem wf.pa {h : am_H} (hw : wf h) {a k : Nat} {x : Int} (hq : a ∉ wr_o) : wf (am_put h a k x) := hw.put (fun q hq2 e => hq (by rw [← e.1]; exact List.mem_map.mpr ⟨q, hq2, rfl⟩))
/-- contents, as functions -/
theorem put_at {h : am_H} {a k : Nat} {x : Int} (b j : Nat) : (am_put h a k x).2.2.2 b j = if b = a ∧ j = k then x else h.2.2.2 b j := rfl
theorem wr_0_0 : (0, 0, 1) ∈ wr_l := by decide +kernel
theorem wr_0_6 : (0, 6, 2) ∈ wr_l := by decide +kernel
theorem wr_0_7 : (0, 7, 9) ∈ wr_l := by decide +kernel
theorem wr_0_8 : (0, 8, 30) ∈ wr_l := by decide +kernel
theorem wr_0_9 : (0, 9, 40) ∈ wr_l := by decide +kernel
theorem wr_0_10 : (0, 10, 43) ∈ wr_l := by decide +kernel
theorem wr_0_11 : (0, 11, 57) ∈ wr_l := by decide +kernel
theorem wr_0_12 : (0, 12, 24) ∈ wr_l := by decide +kernel
theorem wr_0_13 : (0, 13, 27) ∈ wr_l := by decide +kernel
theorem wr_0_14 : (0, 14, 63) ∈ wr_l := by decide +kernel
theorem wr_0_15 : (0, 15, 17) ∈ wr_l := by decide +kernel
theorem wr_0_16 : (0, 16, 18) ∈ wr_l := by decide +kernel
theorem wr_0_17 : (0, 17, 19) ∈ wr_l := by decide +kernel
theorem wr_0_18 : (0, 18, 20) ∈ wr_l := by decide +kernel
theorem wr_2_0 : (2, 0, 3) ∈ wr_l := by decide +kernel
theorem wr_2_1 : (2, 1, 5) ∈ wr_l := by decide +kernel
theorem wr_9_0 : (9, 0, 10) ∈ wr_l := by decide +kernel
theorem wr_9_1 : (9, 1, 11) ∈ wr_l := by decide +kernel
theorem wr_9_2 : (9, 2, 12) ∈ wr_l := by decide +kernel
theorem wr_9_3 : (9, 3, 13) ∈ wr_l := by decide +kernel
theorem wr_9_4 : (9, 4, 14) ∈ wr_l := by decide +kernel
theorem wr_9_5 : (9, 5, 15) ∈ wr_l := by decide +kernel
theorem wr_9_6 : (9, 6, 16) ∈ wr_l := by decide +kernel
theorem wr_17_0 : (17, 0, 95) ∈ wr_l := by decide +kernel
theorem wr_17_1 : (17, 1, 97) ∈ wr_l := by decide +kernel
theorem wr_17_2 : (17, 2, 99) ∈ wr_l := by decide +kernel
theorem wr_17_3 : (17, 3, 101) ∈ wr_l := by decide +kernel
theorem wr_18_0 : (18, 0, 103) ∈ wr_l := by decide +kernel
theorem wr_18_1 : (18, 1, 106) ∈ wr_l := by decide +kernel
theorem wr_24_1 : (24, 1, 25) ∈ wr_l := by decide +kernel
theorem wr_24_2 : (24, 2, 26) ∈ wr_l := by decide +kernel
theorem wr_27_1 : (27, 1, 28) ∈ wr_l := by decide +kernel
theorem wr_27_2 : (27, 2, 29) ∈ wr_l := by decide +kernel
theorem wr_30_0 : (30, 0, 9) ∈ wr_l := by decide +kernel
theorem wr_30_1 : (30, 1, 31) ∈ wr_l := by decide +kernel
theorem wr_30_2 : (30, 2, 34) ∈ wr_l := by decide +kernel
theorem wr_30_3 : (30, 3, 35) ∈ wr_l := by decide +kernel
theorem wr_30_6 : (30, 6, 36) ∈ wr_l := by decide +kernel
theorem wr_30_8 : (30, 8, 37) ∈ wr_l := by decide +kernel
theorem wr_30_9 : (30, 9, 38) ∈ wr_l := by decide +kernel
theorem wr_30_10 : (30, 10, 39) ∈ wr_l := by decide +kernel
theorem wr_31_1 : (31, 1, 32) ∈ wr_l := by decide +kernel
theorem wr_31_2 : (31, 2, 33) ∈ wr_l := by decide +kernel
theorem wr_40_0 : (40, 0, 30) ∈ wr_l := by decide +kernel
theorem wr_40_1 : (40, 1, 41) ∈ wr_l := by decide +kernel
theorem wr_40_2 : (40, 2, 42) ∈ wr_l := by decide +kernel
theorem wr_43_0 : (43, 0, 30) ∈ wr_l := by decide +kernel
theorem wr_43_3 : (43, 3, 46) ∈ wr_l := by decide +kernel
theorem wr_43_4 : (43, 4, 47) ∈ wr_l := by decide +kernel
theorem wr_47_0 : (47, 0, 48) ∈ wr_l := by decide +kernel
theorem wr_47_1 : (47, 1, 49) ∈ wr_l := by decide +kernel
theorem wr_47_2 : (47, 2, 50) ∈ wr_l := by decide +kernel
theorem wr_47_3 : (47, 3, 51) ∈ wr_l := by decide +kernel
theorem wr_47_4 : (47, 4, 52) ∈ wr_l := by decide +kernel
theorem wr_47_5 : (47, 5, 53) ∈ wr_l := by decide +kernel
theorem wr_47_6 : (47, 6, 54) ∈ wr_l := by decide +kernel
theorem wr_47_7 : (47, 7, 55) ∈ wr_l := by decide +kernel
theorem wr_47_8 : (47, 8, 56) ∈ wr_l := by decide +kernel
theorem wr_57_0 : (57, 0, 9) ∈ wr_l := by decide +kernel
theorem wr_57_1 : (57, 1, 58) ∈ wr_l := by decide +kernel
theorem wr_57_2 : (57, 2, 61) ∈ wr_l := by decide +kernel
theorem wr_57_3 : (57, 3, 62) ∈ wr_l := by decide +kernel
theorem wr_58_1 : (58, 1, 59) ∈ wr_l := by decide +kernel
theorem wr_58_2 : (58, 2, 60) ∈ wr_l := by decide +kernel
theorem wr_63_0 : (63, 0, 64) ∈ wr_l := by decide +kernel
theorem wr_64_0 : (64, 0, 65) ∈ wr_l := by decide +kernel
theorem wr_64_1 : (64, 1, 68) ∈ wr_l := by decide +kernel
theorem wr_64_2 : (64, 2, 71) ∈ wr_l := by decide +kernel
theorem wr_64_3 : (64, 3, 74) ∈ wr_l := by decide +kernel
theorem wr_64_4 : (64, 4, 77) ∈ wr_l := by decide +kernel
theorem wr_64_5 : (64, 5, 80) ∈ wr_l := by decide +kernel
theorem wr_64_6 : (64, 6, 83) ∈ wr_l := by decide +kernel
theorem wr_64_7 : (64, 7, 86) ∈ wr_l := by decide +kernel
theorem wr_64_8 : (64, 8, 89) ∈ wr_l := by decide +kernel
theorem wr_64_9 : (64, 9, 92) ∈ wr_l := by decide +kernel
theorem wr_65_1 : (65, 1, 66) ∈ wr_l := by decide +kernel
theorem wr_65_2 : (65, 2, 67) ∈ wr_l := by decide +kernel
theorem wr_68_1 : (68, 1, 69) ∈ wr_l := by decide +kernel
theorem wr_68_2 : (68, 2, 70) ∈ wr_l := by decide +kernel
theorem wr_71_1 : (71, 1, 72) ∈ wr_l := by decide +kernel
theorem wr_71_2 : (71, 2, 73) ∈ wr_l := by decide +kernel
theorem wr_74_1 : (74, 1, 75) ∈ wr_l := by decide +kernel
theorem wr_74_2 : (74, 2, 76) ∈ wr_l := by decide +kernel
theorem wr_77_1 : (77, 1, 78) ∈ wr_l := by decide +kernel
theorem wr_77_2 : (77, 2, 79) ∈ wr_l := by decide +kernel
theorem wr_80_1 : (80, 1, 81) ∈ wr_l := by decide +kernel
theorem wr_80_2 : (80, 2, 82) ∈ wr_l := by decide +kernel
theorem wr_83_1 : (83, 1, 84) ∈ wr_l := by decide +kernel
theorem wr_83_2 : (83, 2, 85) ∈ wr_l := by decide +kernel
theorem wr_86_1 : (86, 1, 87) ∈ wr_l := by decide +kernel
theorem wr_86_2 : (86, 2, 88) ∈ wr_l := by decide +kernel
theorem wr_89_1 : (89, 1, 90) ∈ wr_l := by decide +kernel
theorem wr_89_2 : (89, 2, 91) ∈ wr_l := by decide +kernel
theorem wr_92_1 : (92, 1, 93) ∈ wr_l := by decide +kernel
theorem wr_92_2 : (92, 2, 94) ∈ wr_l := by decide +kernel
theorem wr_95_3 : (95, 3, 96) ∈ wr_l := by decide +kernel
theorem wr_97_3 : (97, 3, 98) ∈ wr_l := by decide +kernel
theorem wr_99_3 : (99, 3, 100) ∈ wr_l := by decide +kernel
theorem wr_101_3 : (101, 3, 102) ∈ wr_l := by decide +kernel
theorem wr_103_1 : (103, 1, 104) ∈ wr_l := by decide +kernel
theorem wr_103_2 : (103, 2, 105) ∈ wr_l := by decide +kernel
theorem wr_106_1 : (106, 1, 107) ∈ wr_l := by decide +kernel
theorem wr_106_2 : (106, 2, 108) ∈ wr_l := by decide +kernel
theorem wr_109_1 : (109, 1, 110) ∈ wr_l := by decide +kernel
theorem wr_109_2 : (109, 2, 111) ∈ wr_l := by decide +kernel
theorem wr_109_3 : (109, 3, 112) ∈ wr_l := by decide +kernel
theorem wr_109_4 : (109, 4, 113) ∈ wr_l := by decide +kernel
theorem wr_109_15 : (109, 15, 114) ∈ wr_l := by decide +kernel
theorem wr_109_16 : (109, 16, 115) ∈ wr_l := by decide +kernel
theorem wr_109_17 : (109, 17, 116) ∈ wr_l := by decide +kernel
theorem wr_109_20 : (109, 20, 117) ∈ wr_l := by decide +kernel
theorem wr_109_21 : (109, 21, 118) ∈ wr_l := by decide +kernel
theorem wr_109_24 : (109, 24, 119) ∈ wr_l := by decide +kernel
theorem wr_109_25 : (109, 25, 120) ∈ wr_l := by decide +kernel
theorem wr_109_26 : (109, 26, 121) ∈ wr_l := by decide +kernel
theorem wr_109_27 : (109, 27, 122) ∈ wr_l := by decide +kernel
theorem wr_109_28 : (109, 28, 123) ∈ wr_l := by decide +kernel
theorem wr_109_30 : (109, 30, 124) ∈ wr_l := by decide +kernel
theorem wr_109_31 : (109, 31, 125) ∈ wr_l := by decide +kernel
theorem wr_109_32 : (109, 32, 126) ∈ wr_l := by decide +kernel
theorem wr_109_33 : (109, 33, 127) ∈ wr_l := by decide +kernel
theorem wr_109_35 : (109, 35, 128) ∈ wr_l := by decide +kernel
theorem wr_109_36 : (109, 36, 129) ∈ wr_l := by decide +kernel
theorem wr_109_37 : (109, 37, 130) ∈ wr_l := by decide +kernel
theorem wr_109_38 : (109, 38, 131) ∈ wr_l := by decide +kernel
theorem wr_109_39 : (109, 39, 132) ∈ wr_l := by decide +kernel
theorem np_0_1 : ∀ q ∈ wr_l, ¬ (q.1 = 0 ∧ q.2.1 = 1) := by decide +kernel
theorem np_0_2 : ∀ q ∈ wr_l, ¬ (q.1 = 0 ∧ q.2.1 = 2) := by decide +kernel
theorem np_0_3 : ∀ q ∈ wr_l, ¬ (q.1 = 0 ∧ q.2.1 = 3) := by decide +kernel
theorem np_0_4 : ∀ q ∈ wr_l, ¬ (q.1 = 0 ∧ q.2.1 = 4) := by decide +kernel
theorem np_0_5 : ∀ q ∈ wr_l, ¬ (q.1 = 0 ∧ q.2.1 = 5) := by decide +kernel
theorem na_1 : 1 ∉ wr_o := by decide +kernel
theorem np_2_2 : ∀ q ∈ wr_l, ¬ (q.1 = 2 ∧ q.2.1 = 2) := by decide +kernel
theorem np_2_3 : ∀ q ∈ wr_l, ¬ (q.1 = 2 ∧ q.2.1 = 3) := by decide +kernel
theorem np_3_0 : ∀ q ∈ wr_l, ¬ (q.1 = 3 ∧ q.2.1 = 0) := by decide +kernel
theorem np_3_1 : ∀ q ∈ wr_l, ¬ (q.1 = 3 ∧ q.2.1 = 1) := by decide +kernel
theorem np_3_2 : ∀ q ∈ wr_l, ¬ (q.1 = 3 ∧ q.2.1 = 2) := by decide +kernel
theorem np_3_3 : ∀ q ∈ wr_l, ¬ (q.1 = 3 ∧ q.2.1 = 3) := by decide +kernel
theorem np_3_4 : ∀ q ∈ wr_l, ¬ (q.1 = 3 ∧ q.2.1 = 4) := by decide +kernel
theorem np_3_5 : ∀ q ∈ wr_l, ¬ (q.1 = 3 ∧ q.2.1 = 5) := by decide +kernel
theorem np_3_6 : ∀ q ∈ wr_l, ¬ (q.1 = 3 ∧ q.2.1 = 6) := by decide +kernel
theorem np_3_7 : ∀ q ∈ wr_l, ¬ (q.1 = 3 ∧ q.2.1 = 7) := by decide +kernel
theorem na_4 : 4 ∉ wr_o := by decide +kernel
theorem na_5 : 5 ∉ wr_o := by decide +kernel
theorem np_6_0 : ∀ q ∈ wr_l, ¬ (q.1 = 6 ∧ q.2.1 = 0) := by decide +kernel
theorem np_6_1 : ∀ q ∈ wr_l, ¬ (q.1 = 6 ∧ q.2.1 = 1) := by decide +kernel
theorem np_6_2 : ∀ q ∈ wr_l, ¬ (q.1 = 6 ∧ q.2.1 = 2) := by decide +kernel
theorem np_6_3 : ∀ q ∈ wr_l, ¬ (q.1 = 6 ∧ q.2.1 = 3) := by decide +kernel
theorem np_6_4 : ∀ q ∈ wr_l, ¬ (q.1 = 6 ∧ q.2.1 = 4) := by decide +kernel
theorem np_6_5 : ∀ q ∈ wr_l, ¬ (q.1 = 6 ∧ q.2.1 = 5) := by decide +kernel
theorem np_6_6 : ∀ q ∈ wr_l, ¬ (q.1 = 6 ∧ q.2.1 = 6) := by decide +kernel
theorem np_6_7 : ∀ q ∈ wr_l, ¬ (q.1 = 6 ∧ q.2.1 = 7) := by decide +kernel
theorem np_6_8 : ∀ q ∈ wr_l, ¬ (q.1 = 6 ∧ q.2.1 = 8) := by decide +kernel
theorem np_6_9 : ∀ q ∈ wr_l, ¬ (q.1 = 6 ∧ q.2.1 = 9) := by decide +kernel
theorem np_6_10 : ∀ q ∈ wr_l, ¬ (q.1 = 6 ∧ q.2.1 = 10) := by decide +kernel
theorem np_6_11 : ∀ q ∈ wr_l, ¬ (q.1 = 6 ∧ q.2.1 = 11) := by decide +kernel
theorem np_6_12 : ∀ q ∈ wr_l, ¬ (q.1 = 6 ∧ q.2.1 = 12) := by decide +kernel
theorem np_6_13 : ∀ q ∈ wr_l, ¬ (q.1 = 6 ∧ q.2.1 = 13) := by decide +kernel
theorem na_7 : 7 ∉ wr_o := by decide +kernel
theorem na_8 : 8 ∉ wr_o := by decide +kernel
theorem np_9_7 : ∀ q ∈ wr_l, ¬ (q.1 = 9 ∧ q.2.1 = 7) := by decide +kernel
theorem na_10 : 10 ∉ wr_o := by decide +kernel
theorem na_11 : 11 ∉ wr_o := by decide +kernel
theorem na_12 : 12 ∉ wr_o := by decide +kernel
theorem na_13 : 13 ∉ wr_o := by decide +kernel
theorem na_14 : 14 ∉ wr_o := by decide +kernel
theorem na_15 : 15 ∉ wr_o := by decide +kernel
theorem na_16 : 16 ∉ wr_o := by decide +kernel
theorem na_19 : 19 ∉ wr_o := by decide +kernel
theorem na_20 : 20 ∉ wr_o := by decide +kernel
theorem np_21_0 : ∀ q ∈ wr_l, ¬ (q.1 = 21 ∧ q.2.1 = 0) := by decide +kernel
theorem np_21_1 : ∀ q ∈ wr_l, ¬ (q.1 = 21 ∧ q.2.1 = 1) := by decide +kernel
theorem np_21_2 : ∀ q ∈ wr_l, ¬ (q.1 = 21 ∧ q.2.1 = 2) := by decide +kernel
theorem np_21_3 : ∀ q ∈ wr_l, ¬ (q.1 = 21 ∧ q.2.1 = 3) := by decide +kernel
theorem np_21_4 : ∀ q ∈ wr_l, ¬ (q.1 = 21 ∧ q.2.1 = 4) := by decide +kernel
theorem np_21_5 : ∀ q ∈ wr_l, ¬ (q.1 = 21 ∧ q.2.1 = 5) := by decide +kernel
theorem np_21_6 : ∀ q ∈ wr_l, ¬ (q.1 = 21 ∧ q.2.1 = 6) := by decide +kernel
theorem np_21_7 : ∀ q ∈ wr_l, ¬ (q.1 = 21 ∧ q.2.1 = 7) := by decide +kernel
theorem np_21_8 : ∀ q ∈ wr_l, ¬ (q.1 = 21 ∧ q.2.1 = 8) := by decide +kernel
theorem np_21_9 : ∀ q ∈ wr_l, ¬ (q.1 = 21 ∧ q.2.1 = 9) := by decide +kernel
theorem np_21_10 : ∀ q ∈ wr_l, ¬ (q.1 = 21 ∧ q.2.1 = 10) := by decide +kernel
theorem np_21_11 : ∀ q ∈ wr_l, ¬ (q.1 = 21 ∧ q.2.1 = 11) := by decide +kernel
theorem np_21_12 : ∀ q ∈ wr_l, ¬ (q.1 = 21 ∧ q.2.1 = 12) := by decide +kernel
theorem np_21_13 : ∀ q ∈ wr_l, ¬ (q.1 = 21 ∧ q.2.1 = 13) := by decide +kernel
theorem na_22 : 22 ∉ wr_o := by decide +kernel
theorem na_23 : 23 ∉ wr_o := by decide +kernel
theorem np_24_0 : ∀ q ∈ wr_l, ¬ (q.1 = 24 ∧ q.2.1 = 0) := by decide +kernel
theorem np_24_3 : ∀ q ∈ wr_l, ¬ (q.1 = 24 ∧ q.2.1 = 3) := by decide +kernel
theorem np_24_4 : ∀ q ∈ wr_l, ¬ (q.1 = 24 ∧ q.2.1 = 4) := by decide +kernel
theorem np_24_5 : ∀ q ∈ wr_l, ¬ (q.1 = 24 ∧ q.2.1 = 5) := by decide +kernel
theorem np_24_6 : ∀ q ∈ wr_l, ¬ (q.1 = 24 ∧ q.2.1 = 6) := by decide +kernel
theorem np_24_7 : ∀ q ∈ wr_l, ¬ (q.1 = 24 ∧ q.2.1 = 7) := by decide +kernel
theorem np_24_8 : ∀ q ∈ wr_l, ¬ (q.1 = 24 ∧ q.2.1 = 8) := by decide +kernel
theorem na_25 : 25 ∉ wr_o := by decide +kernel
theorem na_26 : 26 ∉ wr_o := by decide +kernel
theorem np_27_0 : ∀ q ∈ wr_l, ¬ (q.1 = 27 ∧ q.2.1 = 0) := by decide +kernel
theorem np_27_3 : ∀ q ∈ wr_l, ¬ (q.1 = 27 ∧ q.2.1 = 3) := by decide +kernel
theorem np_27_4 : ∀ q ∈ wr_l, ¬ (q.1 = 27 ∧ q.2.1 = 4) := by decide +kernel
theorem np_27_5 : ∀ q ∈ wr_l, ¬ (q.1 = 27 ∧ q.2.1 = 5) := by decide +kernel
theorem np_27_6 : ∀ q ∈ wr_l, ¬ (q.1 = 27 ∧ q.2.1 = 6) := by decide +kernel
theorem np_27_7 : ∀ q ∈ wr_l, ¬ (q.1 = 27 ∧ q.2.1 = 7) := by decide +kernel
theorem np_27_8 : ∀ q ∈ wr_l, ¬ (q.1 = 27 ∧ q.2.1 = 8) := by decide +kernel
theorem na_28 : 28 ∉ wr_o := by decide +kernel
theorem na_29 : 29 ∉ wr_o := by decide +kernel
theorem np_30_4 : ∀ q ∈ wr_l, ¬ (q.1 = 30 ∧ q.2.1 = 4) := by decide +kernel
theorem np_30_5 : ∀ q ∈ wr_l, ¬ (q.1 = 30 ∧ q.2.1 = 5) := by decide +kernel
theorem np_30_7 : ∀ q ∈ wr_l, ¬ (q.1 = 30 ∧ q.2.1 = 7) := by decide +kernel
theorem np_30_11 : ∀ q ∈ wr_l, ¬ (q.1 = 30 ∧ q.2.1 = 11) := by decide +kernel
theorem np_30_12 : ∀ q ∈ wr_l, ¬ (q.1 = 30 ∧ q.2.1 = 12) := by decide +kernel
theorem np_31_0 : ∀ q ∈ wr_l, ¬ (q.1 = 31 ∧ q.2.1 = 0) := by decide +kernel
theorem np_31_3 : ∀ q ∈ wr_l, ¬ (q.1 = 31 ∧ q.2.1 = 3) := by decide +kernel
theorem np_31_4 : ∀ q ∈ wr_l, ¬ (q.1 = 31 ∧ q.2.1 = 4) := by decide +kernel
theorem np_31_5 : ∀ q ∈ wr_l, ¬ (q.1 = 31 ∧ q.2.1 = 5) := by decide +kernel
theorem np_31_6 : ∀ q ∈ wr_l, ¬ (q.1 = 31 ∧ q.2.1 = 6) := by decide +kernel
theorem np_31_7 : ∀ q ∈ wr_l, ¬ (q.1 = 31 ∧ q.2.1 = 7) := by decide +kernel
theorem np_31_8 : ∀ q ∈ wr_l, ¬ (q.1 = 31 ∧ q.2.1 = 8) := by decide +kernel
theorem na_32 : 32 ∉ wr_o := by decide +kernel
theorem na_33 : 33 ∉ wr_o := by decide +kernel
theorem na_34 : 34 ∉ wr_o := by decide +kernel
theorem na_35 : 35 ∉ wr_o := by decide +kernel
theorem na_36 : 36 ∉ wr_o := by decide +kernel
theorem na_37 : 37 ∉ wr_o := by decide +kernel
theorem na_38 : 38 ∉ wr_o := by decide +kernel
theorem na_39 : 39 ∉ wr_o := by decide +kernel
theorem na_41 : 41 ∉ wr_o := by decide +kernel
theorem na_42 : 42 ∉ wr_o := by decide +kernel
theorem np_43_1 : ∀ q ∈ wr_l, ¬ (q.1 = 43 ∧ q.2.1 = 1) := by decide +kernel
theorem np_43_2 : ∀ q ∈ wr_l, ¬ (q.1 = 43 ∧ q.2.1 = 2) := by decide +kernel
theorem na_44 : 44 ∉ wr_o := by decide +kernel
theorem na_45 : 45 ∉ wr_o := by decide +kernel
theorem na_46 : 46 ∉ wr_o := by decide +kernel
theorem na_48 : 48 ∉ wr_o := by decide +kernel
theorem na_49 : 49 ∉ wr_o := by decide +kernel
theorem na_50 : 50 ∉ wr_o := by decide +kernel
theorem na_51 : 51 ∉ wr_o := by decide +kernel
theorem na_52 : 52 ∉ wr_o := by decide +kernel
theorem na_53 : 53 ∉ wr_o := by decide +kernel
theorem na_54 : 54 ∉ wr_o := by decide +kernel
theorem na_55 : 55 ∉ wr_o := by decide +kernel
theorem na_56 : 56 ∉ wr_o := by decide +kernel
theorem np_57_4 : ∀ q ∈ wr_l, ¬ (q.1 = 57 ∧ q.2.1 = 4) := by decide +kernel
theorem np_57_5 : ∀ q ∈ wr_l, ¬ (q.1 = 57 ∧ q.2.1 = 5) := by decide +kernel
theorem np_57_6 : ∀ q ∈ wr_l, ¬ (q.1 = 57 ∧ q.2.1 = 6) := by decide +kernel
theorem np_58_0 : ∀ q ∈ wr_l, ¬ (q.1 = 58 ∧ q.2.1 = 0) := by decide +kernel
theorem np_58_3 : ∀ q ∈ wr_l, ¬ (q.1 = 58 ∧ q.2.1 = 3) := by decide +kernel
theorem np_58_4 : ∀ q ∈ wr_l, ¬ (q.1 = 58 ∧ q.2.1 = 4) := by decide +kernel
theorem np_58_5 : ∀ q ∈ wr_l, ¬ (q.1 = 58 ∧ q.2.1 = 5) := by decide +kernel
theorem np_58_6 : ∀ q ∈ wr_l, ¬ (q.1 = 58 ∧ q.2.1 = 6) := by decide +kernel
theorem np_58_7 : ∀ q ∈ wr_l, ¬ (q.1 = 58 ∧ q.2.1 = 7) := by decide +kernel
theorem np_58_8 : ∀ q ∈ wr_l, ¬ (q.1 = 58 ∧ q.2.1 = 8) := by decide +kernel
theorem na_59 : 59 ∉ wr_o := by decide +kernel
theorem na_60 : 60 ∉ wr_o := by decide +kernel
theorem na_61 : 61 ∉ wr_o := by decide +kernel
theorem na_62 : 62 ∉ wr_o := by decide +kernel
theorem np_63_1 : ∀ q ∈ wr_l, ¬ (q.1 = 63 ∧ q.2.1 = 1) := by decide +kernel
theorem np_63_2 : ∀ q ∈ wr_l, ¬ (q.1 = 63 ∧ q.2.1 = 2) := by decide +kernel
theorem np_65_0 : ∀ q ∈ wr_l, ¬ (q.1 = 65 ∧ q.2.1 = 0) := by decide +kernel
theorem np_65_3 : ∀ q ∈ wr_l, ¬ (q.1 = 65 ∧ q.2.1 = 3) := by decide +kernel
theorem np_65_4 : ∀ q ∈ wr_l, ¬ (q.1 = 65 ∧ q.2.1 = 4) := by decide +kernel
theorem np_65_5 : ∀ q ∈ wr_l, ¬ (q.1 = 65 ∧ q.2.1 = 5) := by decide +kernel
theorem np_65_6 : ∀ q ∈ wr_l, ¬ (q.1 = 65 ∧ q.2.1 = 6) := by decide +kernel
theorem np_65_7 : ∀ q ∈ wr_l, ¬ (q.1 = 65 ∧ q.2.1 = 7) := by decide +kernel
theorem np_65_8 : ∀ q ∈ wr_l, ¬ (q.1 = 65 ∧ q.2.1 = 8) := by decide +kernel
theorem na_66 : 66 ∉ wr_o := by decide +kernel
theorem na_67 : 67 ∉ wr_o := by decide +kernel
theorem np_68_0 : ∀ q ∈ wr_l, ¬ (q.1 = 68 ∧ q.2.1 = 0) := by decide +kernel
theorem np_68_3 : ∀ q ∈ wr_l, ¬ (q.1 = 68 ∧ q.2.1 = 3) := by decide +kernel
theorem np_68_4 : ∀ q ∈ wr_l, ¬ (q.1 = 68 ∧ q.2.1 = 4) := by decide +kernel
theorem np_68_5 : ∀ q ∈ wr_l, ¬ (q.1 = 68 ∧ q.2.1 = 5) := by decide +kernel
theorem np_68_6 : ∀ q ∈ wr_l, ¬ (q.1 = 68 ∧ q.2.1 = 6) := by decide +kernel
theorem np_68_7 : ∀ q ∈ wr_l, ¬ (q.1 = 68 ∧ q.2.1 = 7) := by decide +kernel
theorem np_68_8 : ∀ q ∈ wr_l, ¬ (q.1 = 68 ∧ q.2.1 = 8) := by decide +kernel
theorem na_69 : 69 ∉ wr_o := by decide +kernel
theorem na_70 : 70 ∉ wr_o := by decide +kernel
theorem np_71_0 : ∀ q ∈ wr_l, ¬ (q.1 = 71 ∧ q.2.1 = 0) := by decide +kernel
theorem np_71_3 : ∀ q ∈ wr_l, ¬ (q.1 = 71 ∧ q.2.1 = 3) := by decide +kernel
theorem np_71_4 : ∀ q ∈ wr_l, ¬ (q.1 = 71 ∧ q.2.1 = 4) := by decide +kernel
theorem np_71_5 : ∀ q ∈ wr_l, ¬ (q.1 = 71 ∧ q.2.1 = 5) := by decide +kernel
theorem np_71_6 : ∀ q ∈ wr_l, ¬ (q.1 = 71 ∧ q.2.1 = 6) := by decide +kernel
theorem np_71_7 : ∀ q ∈ wr_l, ¬ (q.1 = 71 ∧ q.2.1 = 7) := by decide +kernel
theorem np_71_8 : ∀ q ∈ wr_l, ¬ (q.1 = 71 ∧ q.2.1 = 8) := by decide +kernel
theorem na_72 : 72 ∉ wr_o := by decide +kernel
theorem na_73 : 73 ∉ wr_o := by decide +kernel
theorem np_74_0 : ∀ q ∈ wr_l, ¬ (q.1 = 74 ∧ q.2.1 = 0) := by decide +kernel
theorem np_74_3 : ∀ q ∈ wr_l, ¬ (q.1 = 74 ∧ q.2.1 = 3) := by decide +kernel
theorem np_74_4 : ∀ q ∈ wr_l, ¬ (q.1 = 74 ∧ q.2.1 = 4) := by decide +kernel
theorem np_74_5 : ∀ q ∈ wr_l, ¬ (q.1 = 74 ∧ q.2.1 = 5) := by decide +kernel
theorem np_74_6 : ∀ q ∈ wr_l, ¬ (q.1 = 74 ∧ q.2.1 = 6) := by decide +kernel
theorem np_74_7 : ∀ q ∈ wr_l, ¬ (q.1 = 74 ∧ q.2.1 = 7) := by decide +kernel
theorem np_74_8 : ∀ q ∈ wr_l, ¬ (q.1 = 74 ∧ q.2.1 = 8) := by decide +kernel
theorem na_75 : 75 ∉ wr_o := by decide +kernel
theorem na_76 : 76 ∉ wr_o := by decide +kernel
theorem np_77_0 : ∀ q ∈ wr_l, ¬ (q.1 = 77 ∧ q.2.1 = 0) := by decide +kernel
theorem np_77_3 : ∀ q ∈ wr_l, ¬ (q.1 = 77 ∧ q.2.1 = 3) := by decide +kernel
theorem np_77_4 : ∀ q ∈ wr_l, ¬ (q.1 = 77 ∧ q.2.1 = 4) := by decide +kernel
theorem np_77_5 : ∀ q ∈ wr_l, ¬ (q.1 = 77 ∧ q.2.1 = 5) := by decide +kernel
theorem np_77_6 : ∀ q ∈ wr_l, ¬ (q.1 = 77 ∧ q.2.1 = 6) := by decide +kernel
theorem np_77_7 : ∀ q ∈ wr_l, ¬ (q.1 = 77 ∧ q.2.1 = 7) := by decide +kernel
theorem np_77_8 : ∀ q ∈ wr_l, ¬ (q.1 = 77 ∧ q.2.1 = 8) := by decide +kernel
theorem na_78 : 78 ∉ wr_o := by decide +kernel
theorem na_79 : 79 ∉ wr_o := by decide +kernel
theorem np_80_0 : ∀ q ∈ wr_l, ¬ (q.1 = 80 ∧ q.2.1 = 0) := by decide +kernel
theorem np_80_3 : ∀ q ∈ wr_l, ¬ (q.1 = 80 ∧ q.2.1 = 3) := by decide +kernel
theorem np_80_4 : ∀ q ∈ wr_l, ¬ (q.1 = 80 ∧ q.2.1 = 4) := by decide +kernel
theorem np_80_5 : ∀ q ∈ wr_l, ¬ (q.1 = 80 ∧ q.2.1 = 5) := by decide +kernel
theorem np_80_6 : ∀ q ∈ wr_l, ¬ (q.1 = 80 ∧ q.2.1 = 6) := by decide +kernel
theorem np_80_7 : ∀ q ∈ wr_l, ¬ (q.1 = 80 ∧ q.2.1 = 7) := by decide +kernel
theorem np_80_8 : ∀ q ∈ wr_l, ¬ (q.1 = 80 ∧ q.2.1 = 8) := by decide +kernel
theorem na_81 : 81 ∉ wr_o := by decide +kernel
theorem na_82 : 82 ∉ wr_o := by decide +kernel
theorem np_83_0 : ∀ q ∈ wr_l, ¬ (q.1 = 83 ∧ q.2.1 = 0) := by decide +kernel
theorem np_83_3 : ∀ q ∈ wr_l, ¬ (q.1 = 83 ∧ q.2.1 = 3) := by decide +kernel
theorem np_83_4 : ∀ q ∈ wr_l, ¬ (q.1 = 83 ∧ q.2.1 = 4) := by decide +kernel
theorem np_83_5 : ∀ q ∈ wr_l, ¬ (q.1 = 83 ∧ q.2.1 = 5) := by decide +kernel
theorem np_83_6 : ∀ q ∈ wr_l, ¬ (q.1 = 83 ∧ q.2.1 = 6) := by decide +kernel
theorem np_83_7 : ∀ q ∈ wr_l, ¬ (q.1 = 83 ∧ q.2.1 = 7) := by decide +kernel
theorem np_83_8 : ∀ q ∈ wr_l, ¬ (q.1 = 83 ∧ q.2.1 = 8) := by decide +kernel
theorem na_84 : 84 ∉ wr_o := by decide +kernel
theorem na_85 : 85 ∉ wr_o := by decide +kernel
theorem np_86_0 : ∀ q ∈ wr_l, ¬ (q.1 = 86 ∧ q.2.1 = 0) := by decide +kernel
theorem np_86_3 : ∀ q ∈ wr_l, ¬ (q.1 = 86 ∧ q.2.1 = 3) := by decide +kernel
theorem np_86_4 : ∀ q ∈ wr_l, ¬ (q.1 = 86 ∧ q.2.1 = 4) := by decide +kernel
theorem np_86_5 : ∀ q ∈ wr_l, ¬ (q.1 = 86 ∧ q.2.1 = 5) := by decide +kernel
theorem np_86_6 : ∀ q ∈ wr_l, ¬ (q.1 = 86 ∧ q.2.1 = 6) := by decide +kernel
theorem np_86_7 : ∀ q ∈ wr_l, ¬ (q.1 = 86 ∧ q.2.1 = 7) := by decide +kernel
theorem np_86_8 : ∀ q ∈ wr_l, ¬ (q.1 = 86 ∧ q.2.1 = 8) := by decide +kernel
theorem na_87 : 87 ∉ wr_o := by decide +kernel
theorem na_88 : 88 ∉ wr_o := by decide +kernel
theorem np_89_0 : ∀ q ∈ wr_l, ¬ (q.1 = 89 ∧ q.2.1 = 0) := by decide +kernel
theorem np_89_3 : ∀ q ∈ wr_l, ¬ (q.1 = 89 ∧ q.2.1 = 3) := by decide +kernel
theorem np_89_4 : ∀ q ∈ wr_l, ¬ (q.1 = 89 ∧ q.2.1 = 4) := by decide +kernel
theorem np_89_5 : ∀ q ∈ wr_l, ¬ (q.1 = 89 ∧ q.2.1 = 5) := by decide +kernel
theorem np_89_6 : ∀ q ∈ wr_l, ¬ (q.1 = 89 ∧ q.2.1 = 6) := by decide +kernel
theorem np_89_7 : ∀ q ∈ wr_l, ¬ (q.1 = 89 ∧ q.2.1 = 7) := by decide +kernel
theorem np_89_8 : ∀ q ∈ wr_l, ¬ (q.1 = 89 ∧ q.2.1 = 8) := by decide +kernel
theorem na_90 : 90 ∉ wr_o := by decide +kernel
theorem na_91 : 91 ∉ wr_o := by decide +kernel
theorem np_92_0 : ∀ q ∈ wr_l, ¬ (q.1 = 92 ∧ q.2.1 = 0) := by decide +kernel
theorem np_92_3 : ∀ q ∈ wr_l, ¬ (q.1 = 92 ∧ q.2.1 = 3) := by decide +kernel
theorem np_92_4 : ∀ q ∈ wr_l, ¬ (q.1 = 92 ∧ q.2.1 = 4) := by decide +kernel
theorem np_92_5 : ∀ q ∈ wr_l, ¬ (q.1 = 92 ∧ q.2.1 = 5) := by decide +kernel
theorem np_92_6 : ∀ q ∈ wr_l, ¬ (q.1 = 92 ∧ q.2.1 = 6) := by decide +kernel
theorem np_92_7 : ∀ q ∈ wr_l, ¬ (q.1 = 92 ∧ q.2.1 = 7) := by decide +kernel
theorem np_92_8 : ∀ q ∈ wr_l, ¬ (q.1 = 92 ∧ q.2.1 = 8) := by decide +kernel
theorem na_93 : 93 ∉ wr_o := by decide +kernel
theorem na_94 : 94 ∉ wr_o := by decide +kernel
theorem np_95_0 : ∀ q ∈ wr_l, ¬ (q.1 = 95 ∧ q.2.1 = 0) := by decide +kernel
theorem np_95_1 : ∀ q ∈ wr_l, ¬ (q.1 = 95 ∧ q.2.1 = 1) := by decide +kernel
theorem np_95_2 : ∀ q ∈ wr_l, ¬ (q.1 = 95 ∧ q.2.1 = 2) := by decide +kernel
theorem na_96 : 96 ∉ wr_o := by decide +kernel
theorem np_97_0 : ∀ q ∈ wr_l, ¬ (q.1 = 97 ∧ q.2.1 = 0) := by decide +kernel
theorem np_97_1 : ∀ q ∈ wr_l, ¬ (q.1 = 97 ∧ q.2.1 = 1) := by decide +kernel
theorem np_97_2 : ∀ q ∈ wr_l, ¬ (q.1 = 97 ∧ q.2.1 = 2) := by decide +kernel
theorem na_98 : 98 ∉ wr_o := by decide +kernel
theorem np_99_0 : ∀ q ∈ wr_l, ¬ (q.1 = 99 ∧ q.2.1 = 0) := by decide +kernel
theorem np_99_1 : ∀ q ∈ wr_l, ¬ (q.1 = 99 ∧ q.2.1 = 1) := by decide +kernel
theorem np_99_2 : ∀ q ∈ wr_l, ¬ (q.1 = 99 ∧ q.2.1 = 2) := by decide +kernel
theorem na_100 : 100 ∉ wr_o := by decide +kernel
theorem np_101_0 : ∀ q ∈ wr_l, ¬ (q.1 = 101 ∧ q.2.1 = 0) := by decide +kernel
theorem np_101_1 : ∀ q ∈ wr_l, ¬ (q.1 = 101 ∧ q.2.1 = 1) := by decide +kernel
theorem np_101_2 : ∀ q ∈ wr_l, ¬ (q.1 = 101 ∧ q.2.1 = 2) := by decide +kernel
theorem na_102 : 102 ∉ wr_o := by decide +kernel
theorem np_103_0 : ∀ q ∈ wr_l, ¬ (q.1 = 103 ∧ q.2.1 = 0) := by decide +kernel
theorem np_103_3 : ∀ q ∈ wr_l, ¬ (q.1 = 103 ∧ q.2.1 = 3) := by decide +kernel
theorem np_103_4 : ∀ q ∈ wr_l, ¬ (q.1 = 103 ∧ q.2.1 = 4) := by decide +kernel
theorem np_103_5 : ∀ q ∈ wr_l, ¬ (q.1 = 103 ∧ q.2.1 = 5) := by decide +kernel
theorem np_103_6 : ∀ q ∈ wr_l, ¬ (q.1 = 103 ∧ q.2.1 = 6) := by decide +kernel
theorem np_103_7 : ∀ q ∈ wr_l, ¬ (q.1 = 103 ∧ q.2.1 = 7) := by decide +kernel
theorem np_103_8 : ∀ q ∈ wr_l, ¬ (q.1 = 103 ∧ q.2.1 = 8) := by decide +kernel
theorem na_104 : 104 ∉ wr_o := by decide +kernel
theorem na_105 : 105 ∉ wr_o := by decide +kernel
theorem np_106_0 : ∀ q ∈ wr_l, ¬ (q.1 = 106 ∧ q.2.1 = 0) := by decide +kernel
theorem np_106_3 : ∀ q ∈ wr_l, ¬ (q.1 = 106 ∧ q.2.1 = 3) := by decide +kernel
theorem np_106_4 : ∀ q ∈ wr_l, ¬ (q.1 = 106 ∧ q.2.1 = 4) := by decide +kernel
theorem np_106_5 : ∀ q ∈ wr_l, ¬ (q.1 = 106 ∧ q.2.1 = 5) := by decide +kernel
theorem np_106_6 : ∀ q ∈ wr_l, ¬ (q.1 = 106 ∧ q.2.1 = 6) := by decide +kernel
theorem np_106_7 : ∀ q ∈ wr_l, ¬ (q.1 = 106 ∧ q.2.1 = 7) := by decide +kernel
theorem np_106_8 : ∀ q ∈ wr_l, ¬ (q.1 = 106 ∧ q.2.1 = 8) := by decide +kernel
theorem na_107 : 107 ∉ wr_o := by decide +kernel
theorem na_108 : 108 ∉ wr_o := by decide +kernel
theorem np_109_0 : ∀ q ∈ wr_l, ¬ (q.1 = 109 ∧ q.2.1 = 0) := by decide +kernel
theorem np_109_5 : ∀ q ∈ wr_l, ¬ (q.1 = 109 ∧ q.2.1 = 5) := by decide +kernel
theorem np_109_6 : ∀ q ∈ wr_l, ¬ (q.1 = 109 ∧ q.2.1 = 6) := by decide +kernel
theorem np_109_7 : ∀ q ∈ wr_l, ¬ (q.1 = 109 ∧ q.2.1 = 7) := by decide +kernel
theorem np_109_8 : ∀ q ∈ wr_l, ¬ (q.1 = 109 ∧ q.2.1 = 8) := by decide +kernel
theorem np_109_9 : ∀ q ∈ wr_l, ¬ (q.1 = 109 ∧ q.2.1 = 9) := by decide +kernel
theorem np_109_10 : ∀ q ∈ wr_l, ¬ (q.1 = 109 ∧ q.2.1 = 10) := by decide +kernel
theorem np_109_11 : ∀ q ∈ wr_l, ¬ (q.1 = 109 ∧ q.2.1 = 11) := by decide +kernel
theorem np_109_12 : ∀ q ∈ wr_l, ¬ (q.1 = 109 ∧ q.2.1 = 12) := by decide +kernel
theorem np_109_13 : ∀ q ∈ wr_l, ¬ (q.1 = 109 ∧ q.2.1 = 13) := by decide +kernel
theorem np_109_14 : ∀ q ∈ wr_l, ¬ (q.1 = 109 ∧ q.2.1 = 14) := by decide +kernel
theorem np_109_18 : ∀ q ∈ wr_l, ¬ (q.1 = 109 ∧ q.2.1 = 18) := by decide +kernel
theorem np_109_19 : ∀ q ∈ wr_l, ¬ (q.1 = 109 ∧ q.2.1 = 19) := by decide +kernel
theorem np_109_22 : ∀ q ∈ wr_l, ¬ (q.1 = 109 ∧ q.2.1 = 22) := by decide +kernel
theorem np_109_23 : ∀ q ∈ wr_l, ¬ (q.1 = 109 ∧ q.2.1 = 23) := by decide +kernel
theorem np_109_29 : ∀ q ∈ wr_l, ¬ (q.1 = 109 ∧ q.2.1 = 29) := by decide +kernel
theorem np_109_34 : ∀ q ∈ wr_l, ¬ (q.1 = 109 ∧ q.2.1 = 34) := by decide +kernel
theorem na_110 : 110 ∉ wr_o := by decide +kernel
theorem na_111 : 111 ∉ wr_o := by decide +kernel
theorem na_112 : 112 ∉ wr_o := by decide +kernel
theorem na_113 : 113 ∉ wr_o := by decide +kernel
theorem na_114 : 114 ∉ wr_o := by decide +kernel
theorem na_115 : 115 ∉ wr_o := by decide +kernel
theorem na_116 : 116 ∉ wr_o := by decide +kernel
theorem na_117 : 117 ∉ wr_o := by decide +kernel
theorem na_118 : 118 ∉ wr_o := by decide +kernel
theorem na_119 : 119 ∉ wr_o := by decide +kernel
theorem na_120 : 120 ∉ wr_o := by decide +kernel
theorem na_121 : 121 ∉ wr_o := by decide +kernel
theorem na_122 : 122 ∉ wr_o := by decide +kernel
theorem na_123 : 123 ∉ wr_o := by decide +kernel
theorem na_124 : 124 ∉ wr_o := by decide +kernel
theorem na_125 : 125 ∉ wr_o := by decide +kernel
theorem na_126 : 126 ∉ wr_o := by decide +kernel
theorem na_127 : 127 ∉ wr_o := by decide +kernel
theorem na_128 : 128 ∉ wr_o := by decide +kernel
theorem na_129 : 129 ∉ wr_o := by decide +kernel
theorem na_130 : 130 ∉ wr_o := by decide +kernel
theorem na_131 : 131 ∉ wr_o := by decide +kernel
theorem na_132 : 132 ∉ wr_o := by decide +kernel
