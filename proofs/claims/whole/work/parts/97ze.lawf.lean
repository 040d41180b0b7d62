/-! the law's loop: a house, both -/
theorem runC_congr {env c c' : Nat → Int} {n : Nat} (e : ∀ j, j < n → c j = c' j) : ∀ {m k : Nat} {s : List Int}, runC env c n m k s = runC env c' n m k s := by
  intro m
  induction m with
  | zero => intro k s; rfl
  | succ m ih =>
    intro k s
    simp only [runC]
    by_cases q : n ≤ k
    · rw [if_pos q, if_pos q]
    · rw [if_neg q, if_neg q]
      have ek := e k (by omega)
      have es : stepC env c n k s = stepC env c' n k s := by
        unfold stepC
        rw [ek]
        by_cases q2 : k + 1 < n
        · rw [e (k + 1) q2]
        · by_cases a1 : -7 ≤ c' k
          · rw [if_pos a1, if_pos a1]
          · rw [if_neg a1, if_neg a1]
            by_cases a2 : c' k = -17
            · rw [if_pos a2, if_pos a2, if_neg (fun z => q2 z.1), if_neg (fun z => q2 z.1)]
            · rw [if_neg a2, if_neg a2]
              by_cases a3 : c' k = -18
              · rw [if_pos a3, if_pos a3]
                cases s with
                | nil => rfl
                | cons x t => simp only; rw [if_neg (fun z => q2 (by omega)), if_neg (fun z => q2 (by omega))]
              · rw [if_neg a3, if_neg a3]
      rw [es]
      cases stepC env c' n k s with
      | none => rfl
      | some z => exact ih
theorem szI.grow {h k : am_H} {W V : Wd} {n : Nat} (Z : szI h n W) (e1 : k.1 ≤ h.1 + 905) (e2 : k.2.1 ≤ h.2.1 + 26 + 1900) (e3 : V.1 ≤ W.1 + 1) : szI k (n + 1) V := by
  unfold szI at *
  omega
section LCe
variable {scr : Nat × (Nat → Int)} {d : Nat} {h : am_H} {Q : Option am_V → am_H → Prop} {W : Wd} {ser n : Nat} {B x : Int} {a : Nat → Int} {k : am_H}
theorem dsI.rok {ds : DS} {p : Nat} {b : Nat → Int} (I : dsI ds p) (hp : p ≤ 900) (e : ∀ j, j < 212 + (ds.1 211).toNat → j ≠ 15 → b j = ds.1 j) (e15 : b 15 = if ds.1 4 = 0 then 1 else 0) : hok b (fun i => (ds.2 i).2.2) 0 ∧ (b 6 = 1 → lawC (ds.2 0).2.1 (ds.2 0).1 (ds.2 0).2.2) ∧ (b 7 = 1 → lawC (ds.2 1).2.1 (ds.2 1).1 (ds.2 1).2.2) := by
  obtain ⟨⟨x1, x2, x3, x4, x5, x6, x7, x8, x9, x10, x11, x12, x13, x14, x15⟩, L0, L1⟩ := I
  have lo : ∀ j, j < 212 → j ≠ 15 → b j = ds.1 j := fun j h1 h2 => e j (by omega) h2
  have law : ∀ i, i < 2 → dsL ds.1 ds.2 i → b (6 + i) = 1 → lawOK b (ds.2 i).2.2 i ∧ lawC (ds.2 i).2.1 (ds.2 i).1 (ds.2 i).2.2 := by
    intro i hi L hb
    rw [lo (6 + i) (by omega) (by omega)] at hb
    obtain ⟨⟨y1, y2, y3, y4⟩, y5, y6⟩ := L.2 hb
    have ec : codesOf b i = codesOf ds.1 i := by
      unfold codesOf
      rw [lo (10 + i) (by omega) (by omega), lo (8 + i) (by omega) (by omega)]
      refine List.map_congr_left (fun j hj => ?_)
      rw [List.mem_range] at hj
      exact e _ (by omega) (by omega)
    refine ⟨⟨by rw [lo (8 + i) (by omega) (by omega)]; exact y1, by rw [lo (10 + i) (by omega) (by omega)]; exact y2, by rw [lo (8 + i) (by omega) (by omega), lo (10 + i) (by omega) (by omega)]; exact y3, fun env he => ?_⟩, y6⟩
    rw [ec]; exact y4 env he
  have b30 : b 30 = 0 := by rw [lo 30 (by omega) (by omega)]; exact x11.2.2.2
  refine ⟨⟨⟨⟨?_, ?_, ?_, ?_, fun s hs => ?_, fun z => (law 0 (by omega) L0 z).1, fun z => (law 1 (by omega) L1 z).1⟩, ⟨?_, ?_, fun s hs hl => ?_, fun s t hs ht ls lt ne => ?_⟩, ⟨?_, ?_, ?_, ?_, ?_, ?_⟩, ?_, ?_⟩, by rw [b30]; omega, fun i hi => by rw [b30] at hi; omega⟩, fun z => (law 0 (by omega) L0 z).2, fun z => (law 1 (by omega) L1 z).2⟩
  · rw [lo 4 (by omega) (by omega)]; omega
  · rw [lo 2 (by omega) (by omega)]; exact x2
  · rw [lo 3 (by omega) (by omega)]; exact x3
  · rw [lo 5 (by omega) (by omega)]; omega
  · rw [lo (16 + s) (by omega) (by omega), lo (22 + s) (by omega) (by omega)]; exact x5 s hs
  · rw [lo 1 (by omega) (by omega)]; exact x1
  · rw [lo 4 (by omega) (by omega), lo 1 (by omega) (by omega)]; exact x4.2
  · rw [lo 4 (by omega) (by omega)] at hl
    rw [lo (16 + s) (by omega) (by omega), lo 1 (by omega) (by omega)]; exact x6 s hs hl
  · rw [lo 4 (by omega) (by omega)] at ls lt
    rw [lo (16 + s) (by omega) (by omega), lo (16 + t) (by omega) (by omega)]; exact x7 s t hs ht ls lt ne
  · rw [lo 14 (by omega) (by omega), lo 3 (by omega) (by omega)]; omega
  · rw [lo 12 (by omega) (by omega), lo 4 (by omega) (by omega)]; exact x9
  · rw [lo 13 (by omega) (by omega), lo 2 (by omega) (by omega)]; exact x10
  · rw [e15]; split <;> omega
  · intro _; rw [lo 14 (by omega) (by omega), lo 3 (by omega) (by omega)]; omega
  · intro z; rw [lo 4 (by omega) (by omega)] at z; rw [e15, if_pos z]
  · rw [lo 28 (by omega) (by omega)]; exact x12
  · rw [lo 29 (by omega) (by omega)]; omega
theorem lc_1 (hs : am_sc scr) (G : gI h W ser B a) (Z : szI h n W) (hB : 0 ≤ B ∧ B < 600000) (hn : n < 590) (hx : 0 ≤ x ∧ x + 6 ≤ (scr.1 : Int)) (K : KT scr d Q B n x) : am_R (am_prog scr) (d + 72) f_L_law 275 [some (.inr (.inr (-1000))), some (.inr (.inr (((0) : Nat) : Int))), some (.inr (.inr ((109 : Nat) : Int))), some (.inl (x))] [] h Q := by
  have s1 := hs.1
  refine w_L_law_275 hs G.1 ?_
  rw [am_w_id (x := x + 1) (by omega) (by omega)]
  refine ⟨by omega, ?_⟩
  have hv := w_b (hs.2 (x + 1).toNat)
  generalize scr.2 (x + 1).toNat = v at *
  obtain ⟨t1, t2, t3, t4, t5⟩ := G.tp
  have h04 := G.hr.1
  have h133 := G.1.1
  have zz := Z
  obtain ⟨z1, z2, z3⟩ := zz
  by_cases c : 0 ≤ v ∧ v ≤ h.2.2.2 0 1
  · refine w_S_house_0 hs G.1 ⟨fun z => by omega, fun _ => ⟨fun _ => ?_, fun z => by omega⟩⟩
    rw [h04, am_w_id (by omega) (by omega)]
    obtain ⟨T, hTe⟩ : ∃ T : Nat → Int, T = fun k => h.2.2.2 1 k % 256 := ⟨_, rfl⟩
    have hT : ∀ k, 0 ≤ T k ∧ T k < 256 := fun k => by rw [hTe]; show 0 ≤ h.2.2.2 1 k % 256 ∧ h.2.2.2 1 k % 256 < 256; omega
    have N9 : v.toNat ≤ 900 := by omega
    refine c_text (T := T) (N := v.toNat) (ser := (W.1 : Int) + 1) (by omega) hs G.1 hT N9 (by omega) (fun k hk => ⟨(t3 k (by omega)).1, by rw [hTe]⟩) t5 (fun g1 r X => ⟨_, rfl, X.1, fun h3 q3 => ?_⟩)
    obtain ⟨w1, D, z22, X⟩ := X
    have D0 := D
    obtain ⟨_, d2, d3, d4, d5, d6, d7, d8, d9, d10, d11, d12⟩ := D0
    have w3 : wf h3 := by rw [q3]; exact w1.put np_0_1
    refine w_Reader_faultKind_0 hs w3 ⟨_, rfl, w3, fun h6 q6 => ?_⟩
    have w6 : wf h6 := by rw [q6]; exact w3.put np_0_2
    refine w_Reader_faultPlace_0 hs w6 ⟨_, rfl, w6, fun h9 q9 => ?_⟩
    have w9 : wf h9 := by rw [q9]; exact w6.put np_0_3
    have e36 : h3.2.2.2 3 6 = g1.2.2.2 3 6 := by rw [q3, put_ne (by omega)]
    have e37 : h6.2.2.2 3 7 = g1.2.2.2 3 7 := by rw [q6, put_ne (by omega), q3, put_ne (by omega)]
    rw [e36] at q6
    rw [e37] at q9
    have c9 : ∀ c, c ≠ 0 → h9.2.2.2 c = g1.2.2.2 c := fun c hc => by rw [q9, put_c hc, q6, put_c hc, q3, put_c hc]
    have e9 : ∀ c, c < h.1 → c ≠ 0 → c ≠ 2 → c ≠ 3 → c ≠ 5 → h9.2.2.2 c = h.2.2.2 c := fun c hc a0 a2 a3 a5 => by
      rw [c9 c a0]; funext j
      exact d3 c j hc a5 (by simp [RXF]; omega)
    have k9 : h9.1 = g1.1 ∧ h9.2.1 = g1.2.1 ∧ h9.2.2.1 = g1.2.2.1 := by rw [q9, q6, q3]; exact ⟨rfl, rfl, rfl⟩
    have v01 : h9.2.2.2 0 1 = 0 := by rw [q9, put_ne (by omega), q6, put_ne (by omega), q3, put_eq]
    have v02 : h9.2.2.2 0 2 = g1.2.2.2 3 6 := by rw [q9, put_ne (by omega), q6, put_eq]
    have v03 : h9.2.2.2 0 3 = g1.2.2.2 3 7 := by rw [q9, put_eq]
    have g04 : g1.2.2.2 0 4 = (W.1 : Int) := by rw [d3 0 4 (by omega) (by omega) (by decide)]; exact h04
    have v04 : h9.2.2.2 0 4 = (W.1 : Int) := by rw [q9, put_ne (by omega), q6, put_ne (by omega), q3, put_ne (by omega)]; exact g04
    have hmT : ∀ p : am_H, p.2.2.2 112 = h.2.2.2 112 → ∀ j : Nat, (j : Int) < h.2.2.2 0 1 → p.2.2.2 112 j = T j := fun p hp j hj => by rw [hp, (t3 j hj).2, hTe]
    cases hr : textF T v.toNat with
    | inl e =>
      rw [hr] at X
      obtain ⟨y1, y2, y3, rfl⟩ := X
      refine ⟨by omega, fun z => absurd rfl z, fun _ => ⟨_, rfl, w9, by omega, ?_⟩⟩
      refine k_Mhouse (T := T) (tp := h.2.2.2 0 1) hs w9 hT (by rw [e9 109 (by omega) (by omega) (by omega) (by omega) (by omega)]; exact t2) t1 (hmT h9 (e9 112 (by omega) (by omega) (by omega) (by omega) (by omega))) (fun z => absurd c z) (fun _ k wk fk P => ⟨_, rfl, wk, ?_⟩)
      rw [hr] at P ⊢
      obtain ⟨p5, p1, p2, p3, p4⟩ := P
      refine lc_tl (by rw [v02, y2]; rfl) (W' := W) (ser' := ser) (a' := a) ?_ ?_ hx hs K
      · have f1 : ∀ z ∈ ([110, 113] : List Nat), 109 < z ∧ z < 133 := by decide
        have f2 : ∀ z ∈ hoF, z.1 = 109 := by decide
        have lo : ∀ c, c ≠ 109 → c ≠ 110 → c ≠ 113 → k.2.2.2 c = h9.2.2.2 c := fun c h1 h2 h3 => fk.c c (by simp; omega) (fun z hz => by have := f2 z hz; omega)
        have all : ∀ c, c < h.1 → c ≠ 0 → c ≠ 2 → c ≠ 3 → c ≠ 5 → c ≠ 109 → c ≠ 113 → k.2.2.2 c = h.2.2.2 c := fun c h1 h2 h3 h4 h5 h6 h7 => by
          by_cases cc : c = 110
          · subst cc; rw [p4, e9 110 h1 (by omega) (by omega) (by omega) (by omega)]
          · rw [lo c h6 cc h7]; exact e9 c h1 h2 h3 h4 h5
        have wo : wc h9 W := G.wc.ext G.hr (fun c hc => by rw [k9.2.2]; exact d2 c hc) (fun c hc hl => e9 c hl (by omega) (by omega) (by omega) (by omega)) (by rw [k9.1]; omega) h133
        have x43 := G.tl
        refine ⟨wk, wo.fr fk (by decide) (by decide), G.pl.sub subW.rfl (fun c h1 h2 => all c (by omega) (by omega) (by omega) (by omega) (by omega) (by omega) (by omega)), (all 110 (by omega) (by omega) (by omega) (by omega) (by omega) (by omega) (by omega)).trans G.row, G.ho.le (by omega), G.rg.sub subW.rfl (fun c h1 h2 => all c (by omega) (by omega) (by omega) (by omega) (by omega) (by omega) (by omega)), G.gr.sub subW.rfl (fun c h1 h2 => all c (by omega) (by omega) (by omega) (by omega) (by omega) (by omega) (by omega)) (by omega), G.pc.sub subW.rfl (all 57 (by omega) (by omega) (by omega) (by omega) (by omega) (by omega) (by omega)) (all 62 (by omega) (by omega) (by omega) (by omega) (by omega) (by omega) (by omega)) (by omega), ?_, ?_, G.im.sub subW.rfl (all 19 (by omega) (by omega) (by omega) (by omega) (by omega) (by omega) (by omega)) (all 111 (by omega) (by omega) (by omega) (by omega) (by omega) (by omega) (by omega)) (fun c h1 h2 => all c (by omega) (by omega) (by omega) (by omega) (by omega) (by omega) (by omega)) (fun _ _ => rfl) (by omega), ?_, ?_, ?_⟩
        · have := G.sn
          unfold snI at *
          rw [all 9 (by omega) (by omega) (by omega) (by omega) (by omega) (by omega) (by omega), all 16 (by omega) (by omega) (by omega) (by omega) (by omega) (by omega) (by omega)]
          exact ⟨by omega, this.2⟩
        · unfold tlI at *
          rw [all 43 (by omega) (by omega) (by omega) (by omega) (by omega) (by omega) (by omega)]
          exact x43
        · exact G.tr.of (fun t ht => ⟨all _ (by omega) (by omega) (by omega) (by omega) (by omega) (by omega) (by omega), all _ (by omega) (by omega) (by omega) (by omega) (by omega) (by omega) (by omega)⟩) (all 130 (by omega) (by omega) (by omega) (by omega) (by omega) (by omega) (by omega)) (all 131 (by omega) (by omega) (by omega) (by omega) (by omega) (by omega) (by omega)) (all 132 (by omega) (by omega) (by omega) (by omega) (by omega) (by omega) (by omega))
        · unfold tpR
          rw [lo 0 (by omega) (by omega) (by omega), v01, v02, v03, p5, p2, p3, y2, y3]
          refine ⟨by omega, rfl, fun j hj => by omega, ⟨rfl, rfl⟩, ?_⟩
          rw [lo 2 (by omega) (by omega) (by omega), c9 2 (by omega)]; exact z22
        · refine ⟨by rw [lo 0 (by omega) (by omega) (by omega)]; exact v04, fun s hs => ?_⟩
          have y := (G.wc.2.1.2 s hs)
          have yb := G.hr.2 s hs
          rw [all _ y.2.2 (by have := y.1.1; omega) (by have := y.1.1; omega) (by have := y.1.1; omega) (by have := y.1.1; omega) (by have := y.1.1; omega) (by have := y.1.1; omega), fk.1, k9.1]
          omega
      · exact Z.grow (by rw [fk.1, k9.1]; exact d11.2) (by rw [fk.2.1, k9.2.1]; exact d12) (Nat.le_succ _)
    | inr ds =>
      rw [hr] at X
      obtain ⟨y1, y2, rfl, y4⟩ := X
      obtain ⟨pp, pp9, I⟩ := text_I hT N9 hr
      refine ⟨by omega, fun _ h10 q10 => ?_, fun z => absurd z (by omega)⟩
      rw [v04, am_w_id (by omega) (by omega)] at q10
      have w10 : wf h10 := by rw [q10]; exact w9.put np_0_4
      have k10 : h10.2.2.1 = g1.2.2.1 := by rw [q10]; exact k9.2.2
      have c10 : ∀ c, c ≠ 0 → h10.2.2.2 c = g1.2.2.2 c := fun c hc => by rw [q10, put_c hc]; exact c9 c hc
      refine k_open (hd := h.1) hs w10 h133 (by rw [k10]; exact d5) (by rw [k10]; exact d6) (by rw [k10]; exact d7) (by rw [c10 _ (by omega)]; exact d8) (by rw [c10 _ (by omega)]; exact d9) (fun g11 w11 f11 o0 o1 o2 o3 o4 o5 o6 o7 => ⟨rfl, w11, ?_⟩)
      refine w_Past_forget_0 hs w11 (fun h12 q12 => ⟨rfl, by rw [q12]; exact w11.put np_63_2, ?_⟩)
      have w12 : wf h12 := by rw [q12]; exact w11.put np_63_2
      have k12 : h12.1 = g1.1 ∧ h12.2.1 = g1.2.1 ∧ h12.2.2.1 = g1.2.2.1 := by
        rw [q12]
        refine ⟨?_, ?_, ?_⟩
        · show g11.1 = _; rw [f11.1, q10]; exact k9.1
        · show g11.2.1 = _; rw [f11.2.1, q10]; exact k9.2.1
        · show g11.2.2.1 = _; rw [f11.2.2.1]; exact k10
      have c12 : ∀ c, c ≠ 0 → (c < 24 ∨ 26 < c) → c ≠ 63 → h12.2.2.2 c = g1.2.2.2 c := fun c h1 h2 h3 => by rw [q12, put_c h3, f11.c c (by simp; omega) (by simp)]; exact c10 c h1
      have z12 : h12.2.2.2 0 = h10.2.2.2 0 := by rw [q12, put_c (by omega), f11.c 0 (by decide) (by simp)]
      have e12 : ∀ c, c < h.1 → c ≠ 0 → c ≠ 2 → c ≠ 3 → c ≠ 5 → (c < 24 ∨ 26 < c) → c ≠ 63 → h12.2.2.2 c = h.2.2.2 c := fun c a1 a2 a3 a4 a5 a6 a7 => by
        rw [c12 c a2 a6 a7, ← c9 c a2]; exact e9 c a1 a2 a3 a4 a5
      have hd : ∀ j, h12.2.2.2 h.1 j = g1.2.2.2 h.1 j := fun j => by rw [c12 _ (by omega) (by omega) (by omega)]
      rw [Int.toNat_natCast]
      refine ⟨⟨by omega, by rw [Int.toNat_natCast, k12.2.2, d5]⟩, ⟨_, rfl, w12, by omega, ?_⟩⟩
      obtain ⟨u1, ⟨u2, u3, u4, u5⟩, ⟨u6, u7, u8, u9, u10⟩, u11, u12, u13⟩ := y4
      refine k_Mhouse (T := T) (tp := h.2.2.2 0 1) hs w12 hT (by rw [e12 109 (by omega) (by omega) (by omega) (by omega) (by omega) (by omega) (by omega)]; exact t2) t1 (hmT h12 (e12 112 (by omega) (by omega) (by omega) (by omega) (by omega) (by omega) (by omega))) (fun z => absurd c z) (fun _ k wk fk P => ⟨_, rfl, wk, ?_⟩)
      rw [hr] at P ⊢
      obtain ⟨p5, p1, p2, p3, p4, p6⟩ := P
      obtain ⟨F, hF⟩ : ∃ F : Nat → (Nat → Int) → Int, F = fun i => (ds.2 i).2.2 := ⟨_, rfl⟩
      have n211 := I.1.2.2.2.2.2.2.2.2.2.2.2.2.2.1
      obtain ⟨rk, l0, l1⟩ := I.rok (b := k.2.2.2 110) (by omega) p3 p4
      rw [← hF] at rk
      have lo110 : ∀ j, j < 212 → j ≠ 15 → k.2.2.2 110 j = ds.1 j := fun j h1 h2 => p3 j (by omega) h2
      refine lc_tl (by rw [hd]; exact u10) (W' := addW W h.1 (k.2.2.2 110) F) (ser' := W.1 + 1) (a' := k.2.2.2 110) ?_ ?_ hx hs K
      · have f2 : ∀ z ∈ hoF, z.1 = 109 := by decide
        have lo : ∀ c, c ≠ 109 → c ≠ 110 → c ≠ 113 → k.2.2.2 c = h12.2.2.2 c := fun c h1 h2 h3 => fk.c c (by simp; omega) (fun z hz => by have := f2 z hz; omega)
        have all : ∀ c, c < h.1 → c ≠ 0 → c ≠ 2 → c ≠ 3 → c ≠ 5 → (c < 24 ∨ 26 < c) → c ≠ 63 → c ≠ 109 → c ≠ 110 → c ≠ 113 → k.2.2.2 c = h.2.2.2 c := fun c h1 h2 h3 h4 h5 h6 h7 h8 h9 h10 => by
          rw [lo c h8 h9 h10]; exact e12 c h1 h2 h3 h4 h5 h6 h7
        obtain ⟨A1, A2, A3⟩ := addW_hi (W := W) (b := k.2.2.2 110) (f := F) (c := h.1)
        have lwn : ∀ q t (i : Nat), t = k.2.2.2 110 (6 + i) → (t = 1 → lawC (ds.2 i).2.1 (ds.2 i).1 (ds.2 i).2.2) → lwK g1 h.1 q t (ds.2 i) → lwC h12 (h12.2.2.2 h.1 q) t (F i) := by
          intro q t i ht hl w
          rw [hd]
          rcases w with ⟨w1, w2⟩ | ⟨w1, l, w2, w3, w4, w5, w6⟩
          · exact Or.inl ⟨w1, w2⟩
          · refine Or.inr ⟨w1, l, (ds.2 i).1, w2, by omega, by rw [k12.2.2]; exact w5, ?_⟩
            have lc := hl w1
            rw [hF, c12 l (by omega) (by omega) (by omega)]
            refine ⟨lc.1, fun env he => ⟨(lc.2 env he).1, ?_⟩⟩
            rw [← (lc.2 env he).2]
            exact runC_congr w6
        have new : hsC h12 h.1 (k.2.2.2 110) F ∧ h12.2.2.2 h.1 0 = ((W.1 + 1 : Nat) : Int) ∧ h.1 < h12.1 := by
          refine ⟨⟨Or.inl h133, by rw [k12.2.2, d5], ?_, ?_, ?_, ?_, ?_, ?_, ?_, ?_⟩, by rw [hd, u1]; omega, by rw [k12.1]; omega⟩
          · rw [hd, lo110 1 (by omega) (by omega)]; exact u2
          · rw [hd, lo110 2 (by omega) (by omega)]; exact u3
          · rw [hd, lo110 3 (by omega) (by omega)]; exact u4
          · rw [hd, lo110 4 (by omega) (by omega)]; exact u5
          · rw [hd, lo110 5 (by omega) (by omega)]; exact u8
          · rw [hd, lo110 0 (by omega) (by omega)]; exact u10
          · exact lwn 12 _ 0 rfl l0 (by rw [lo110 6 (by omega) (by omega)]; exact u12)
          · exact lwn 13 _ 1 rfl l1 (by rw [lo110 7 (by omega) (by omega)]; exact u13)
        have wo : wc h12 (addW W h.1 (k.2.2.2 110) F) := G.wc.add G.hr (by omega) (fun c hc => by rw [k12.2.2]; exact d2 c hc) (fun c hc hl => e12 c hl (by omega) (by omega) (by omega) (by omega) (by omega) (by omega)) (by rw [k12.1]; omega) h133 new
        have x43 := G.tl
        have S : subW W (addW W h.1 (k.2.2.2 110) F) := subW.add
        have q24 : ∀ j, k.2.2.2 24 j = g11.2.2.2 24 j := fun j => by rw [lo 24 (by omega) (by omega) (by omega), q12, put_ne (by omega)]
        have stv := rk.1.st
        have b15 : k.2.2.2 110 15 = if ds.1 4 = 0 then 1 else 0 := p4
        refine ⟨wk, wo.fr fk (by decide) (by decide), ⟨Nat.le_refl _, fun j hj => by rw [A1], ⟨?_, fun s hs => ⟨?_, ?_⟩, ?_, ?_, ?_, ?_, ?_⟩, ?_⟩, rfl, ?_, ⟨?_, ?_, fun i hi => ?_⟩, G.gr.sub S (fun c h1 h2 => all c (by omega) (by omega) (by omega) (by omega) (by omega) (by omega) (by omega) (by omega) (by omega) (by omega)) (by omega), G.pc.sub S (all 57 (by omega) (by omega) (by omega) (by omega) (by omega) (by omega) (by omega) (by omega) (by omega) (by omega)) (all 62 (by omega) (by omega) (by omega) (by omega) (by omega) (by omega) (by omega) (by omega) (by omega) (by omega)) (by omega), ?_, ?_, G.im.sub S (all 19 (by omega) (by omega) (by omega) (by omega) (by omega) (by omega) (by omega) (by omega) (by omega) (by omega)) (all 111 (by omega) (by omega) (by omega) (by omega) (by omega) (by omega) (by omega) (by omega) (by omega) (by omega)) (fun c h1 h2 => all c (by omega) (by omega) (by omega) (by omega) (by omega) (by omega) (by omega) (by omega) (by omega) (by omega)) (fun j hj => ?_) (by omega), ?_, ?_, ?_⟩
        · rw [A3, q24, o0]
        · rw [lo (24 + 1) (by omega) (by omega) (by omega), q12, put_ne (by omega), (o1 s hs).1, c10 _ (by omega), (u11 s hs).1, lo110 (16 + s) (by omega) (by omega)]
        · rw [lo (24 + 2) (by omega) (by omega) (by omega), q12, put_ne (by omega), (o1 s hs).2, c10 _ (by omega), (u11 s hs).2, lo110 (22 + s) (by omega) (by omega)]
        · rw [q24, o2, c10 _ (by omega), u9, lo110 28 (by omega) (by omega)]
        · rw [q24, o4, c10 _ (by omega), u5, u6, lo110 4 (by omega) (by omega), stv.2.2.1, lo110 12 (by omega) (by omega)]
        · rw [q24, o5, c10 _ (by omega), u7, stv.2.2.2.1, lo110 13 (by omega) (by omega)]
        · rw [q24, o6, stv.2.1, lo110 14 (by omega) (by omega)]; exact I.1.2.2.2.2.2.2.2.2.2.2.1.1.symm
        · rw [q24, o3, c10 _ (by omega), u5, stv.2.2.2.2, b15]
        · rw [q24, o7, lo110 29 (by omega) (by omega)]; exact I.1.2.2.2.2.2.2.2.2.2.2.1.2.2.1.symm
        · rw [A2]; exact rk.le (by omega)
        · rw [lo 63 (by omega) (by omega) (by omega), q12, put_ne (by omega), f11.c 63 (by decide) (by simp), c10 _ (by omega), d3 63 1 (by omega) (by omega) (by decide)]; exact G.rg.1
        · rw [lo 63 (by omega) (by omega) (by omega), q12, put_eq, lo110 30 (by omega) (by omega)]; exact I.1.2.2.2.2.2.2.2.2.2.2.1.2.2.2.symm
        · exfalso
          rw [lo110 30 (by omega) (by omega), I.1.2.2.2.2.2.2.2.2.2.2.1.2.2.2] at hi
          omega
        · have := G.sn
          unfold snI at *
          rw [all 9 (by omega) (by omega) (by omega) (by omega) (by omega) (by omega) (by omega) (by omega) (by omega) (by omega), all 16 (by omega) (by omega) (by omega) (by omega) (by omega) (by omega) (by omega) (by omega) (by omega) (by omega)]
          exact ⟨by omega, this.2⟩
        · unfold tlI at *
          rw [all 43 (by omega) (by omega) (by omega) (by omega) (by omega) (by omega) (by omega) (by omega) (by omega) (by omega)]
          exact x43
        · rw [p6 j hj, e12 110 (by omega) (by omega) (by omega) (by omega) (by omega) (by omega) (by omega), G.row]
        · exact G.tr.of (fun t ht => ⟨all _ (by omega) (by omega) (by omega) (by omega) (by omega) (by omega) (by omega) (by omega) (by omega) (by omega), all _ (by omega) (by omega) (by omega) (by omega) (by omega) (by omega) (by omega) (by omega) (by omega) (by omega)⟩) (all 130 (by omega) (by omega) (by omega) (by omega) (by omega) (by omega) (by omega) (by omega) (by omega) (by omega)) (all 131 (by omega) (by omega) (by omega) (by omega) (by omega) (by omega) (by omega) (by omega) (by omega) (by omega)) (all 132 (by omega) (by omega) (by omega) (by omega) (by omega) (by omega) (by omega) (by omega) (by omega) (by omega))
        · unfold tpR
          have e01 : k.2.2.2 0 = h10.2.2.2 0 := (lo 0 (by omega) (by omega) (by omega)).trans z12
          have a1 : h10.2.2.2 0 1 = 0 := by rw [q10, put_ne (by omega)]; exact v01
          have a2 : h10.2.2.2 0 2 = 0 := by rw [q10, put_ne (by omega), v02]; exact y1
          have a3 : h10.2.2.2 0 3 = -1 := by rw [q10, put_ne (by omega), v03]; exact y2
          rw [e01, a1, a2, a3, p5, p1, p2]
          refine ⟨by omega, rfl, fun j hj => by omega, ⟨rfl, rfl⟩, ?_⟩
          rw [lo 2 (by omega) (by omega) (by omega), c12 2 (by omega) (by omega) (by omega)]; exact z22
        · have e01 : k.2.2.2 0 = h10.2.2.2 0 := (lo 0 (by omega) (by omega) (by omega)).trans z12
          refine ⟨by rw [e01, q10, put_eq]; show (W.1 : Int) + 1 = ((W.1 + 1 : Nat) : Int); omega, fun s hs => ?_⟩
          rw [fk.1, k12.1]
          rcases Nat.lt_or_ge W.1 s with l | l
          · obtain rfl : s = W.1 + 1 := by have : s ≤ W.1 + 1 := hs; omega
            rw [A3, lo h.1 (by omega) (by omega) (by omega), hd, hd]
            have bd : ∀ q t m, lwK g1 h.1 q t m → g1.2.2.2 h.1 q < (g1.1 : Int) := by
              intro q t m w
              rcases w with ⟨w1, w2⟩ | ⟨w1, l, w2, w3, w4, w5, w6⟩ <;> omega
            exact ⟨bd _ _ _ u12, bd _ _ _ u13⟩
          · have y := (G.wc.2.1.2 s l)
            have yb := G.hr.2 s l
            rw [(S.2 s l).2.2, all _ y.2.2 (by have := y.1.1; omega) (by have := y.1.1; omega) (by have := y.1.1; omega) (by have := y.1.1; omega) (by have := y.1.1; omega) (by have := y.1.1; omega) (by have := y.1.1; omega) (by have := y.1.1; omega) (by have := y.1.1; omega)]
            omega
      · exact Z.grow (by rw [fk.1, k12.1]; exact d11.2) (by rw [fk.2.1, k12.2.1]; exact d12) (Nat.le_refl _)
  · have r3 : am_R (am_prog scr) (d + 71) f_M_house 0 [some (.inr (.inr ((109 : Nat) : Int))), some (.inl (v)), none] [] h (fun v g5 => ∃ r6, v = some (.inl r6) ∧ wf g5 ∧ (((-3 : Int) = r6 → (∀ y7, y7 = am_w (x + 6) → (am_R (am_prog scr) (d + 72) f_L_law 18 [some (.inr (.inr (-1000))), some (.inr (.inr (((0) : Nat) : Int))), some (.inr (.inr ((109 : Nat) : Int))), some (.inl (y7))] [] g5 Q))) ∧ (¬ ((-3 : Int) = r6) → (Q (some (.inl (0))) g5)))) := by
      refine k_Mhouse (T := fun k => h.2.2.2 1 k % 256) (tp := h.2.2.2 0 1) hs G.1 (fun k => by show 0 ≤ h.2.2.2 1 k % 256 ∧ h.2.2.2 1 k % 256 < 256; omega) t2 t1 (fun j hj => (t3 j hj).2) (fun _ => ⟨_, rfl, G.1.put np_109_0, ?_⟩) (fun z => absurd z c)
      have f0 : fr [] [(109, 0)] h (am_put h 109 0 0) := fr.rfl.put (Or.inr (by decide))
      exact lc_tl rfl (G.up.rf (G.1.put np_109_0) (f0.mono (by simp) (by decide)) ((f0.c 110 (by simp) (by simp)).trans G.row)) (Z.one f0) hx hs K
    refine w_S_house_0 hs G.1 ⟨fun _ => ⟨_, rfl, G.1, by omega, r3⟩, fun z => ⟨fun z2 => by omega, fun _ => ⟨_, rfl, G.1, by omega, r3⟩⟩⟩
end LCe
