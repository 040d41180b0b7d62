/-! the next order: the class -/
def ordC (h : am_H) (l : List Nat) : Prop := ∀ i, i < l.length → h.2.2.2 61 i = (l.getD i 0 : Int)
theorem swp_len {l : List Nat} {i j : Nat} : (swpL l i j).length = l.length := by
  unfold swpL; rw [List.length_set, List.length_set]
theorem swp_at {l : List Nat} {i j k : Nat} (hi : i < l.length) (hj : j < l.length) (hk : k < l.length) : (swpL l i j).getD k 0 = if k = j then l.getD i 0 else if k = i then l.getD j 0 else l.getD k 0 := by
  unfold swpL
  rw [List.getD_eq_getElem?_getD (l := (l.set i (l.getD j 0)).set j (l.getD i 0)), List.getElem?_set]
  by_cases q : k = j
  · rw [if_pos q.symm, if_pos (by rw [List.length_set]; omega), if_pos q]; rfl
  · rw [if_neg (fun z => q z.symm), if_neg q, List.getElem?_set]
    by_cases q2 : k = i
    · rw [if_pos q2.symm, if_pos (by omega), if_pos q2]; rfl
    · rw [if_neg (fun z => q2 z.symm), if_neg q2, ← List.getD_eq_getElem?_getD]
theorem turn_le {l : List Nat} : ∀ k, turnL l k ≤ k := by
  intro k
  induction k with
  | zero => exact Nat.le_refl _
  | succ k ih => simp only [turnL]; split <;> omega
theorem with_le {l : List Nat} {t : Nat} : ∀ k, withL l t k ≤ k := by
  intro k
  induction k with
  | zero => exact Nat.le_refl _
  | succ k ih =>
    simp only [withL]
    split
    · omega
    · split <;> omega
theorem rev_len : ∀ (k : Nat) (l : List Nat) (x y : Nat), (revL k l x y).length = l.length := by
  intro k
  induction k with
  | zero => intro l x y; rfl
  | succ k ih =>
    intro l x y
    simp only [revL]
    split
    · rw [ih, swp_len]
    · rfl
section NX
variable {scr : Nat × (Nat → Int)} {d : Nat} {h : am_H} {Q : Option am_V → am_H → Prop}
theorem k_swap {l : List Nat} {i j : Nat} (hs : am_sc scr) (hw : wf h) (hl : l.length ≤ 6) (o : ordC h l) (hi : i < l.length) (hj : j < l.length) (H : ∀ g, wf g → fr [61] [] h g → ordC g (swpL l i j) → Q none g) : am_R (am_prog scr) d f_Placer_swap 0 [some (.inr (.inr (((57) : Nat) : Int))), some (.inl ((i : Int))), some (.inl ((j : Int))), none] [] h Q := by
  refine w_Placer_swap_0 hs hw ⟨by omega, fun y2 h2 => ⟨by omega, by omega, fun h5 e5 => ⟨by omega, fun h7 e7 => ?_⟩⟩⟩
  rw [Int.toNat_natCast] at h2
  rw [Int.toNat_natCast, Int.toNat_natCast] at e5
  rw [Int.toNat_natCast] at e7
  rw [o i hi] at h2
  rw [o j hj] at e5
  refine H h7 (by rw [e7, e5]; exact (hw.pa (by decide +kernel)).pa (by decide +kernel)) (by rw [e7, e5]; exact (fr.rfl.put (Or.inl (by simp))).put (Or.inl (by simp))) (fun k hk => ?_)
  rw [swp_len] at hk
  rw [swp_at hi hj hk, e7]
  simp only [put_at, true_and]
  by_cases q : k = j
  · rw [if_pos q, if_pos q, h2]
  · rw [if_neg q, if_neg q, e5]
    simp only [put_at, true_and]
    by_cases q2 : k = i
    · rw [if_pos q2, if_pos q2]
    · rw [if_neg q2, if_neg q2]; exact o k hk
theorem k_next_83 {x1 x2 x3 : Int} (hs : am_sc scr) : ∀ (m x y : Nat) (l : List Nat) (h : am_H), y ≤ x + 2 * m → l.length ≤ 6 → y < l.length ∨ y ≤ x → wf h → ordC h l → (∀ g, wf g → fr [61] [] h g → ordC g (revL m l x y) → Q (some (.inl (1))) g) → am_R (am_prog scr) (d + 1) f_Placer_nextOrder 83 [some (.inr (.inr (((57) : Nat) : Int))), some (.inl (x1)), some (.inl (x2)), some (.inl (x3)), some (.inl ((y : Int))), some (.inl ((x : Int)))] [] h Q := by
  intro m
  induction m with
  | zero =>
    intro x y l h h1 hl hy hw o H
    exact w_Placer_nextOrder_83 hs hw ⟨fun _ => H h hw fr.rfl o, fun c => by omega⟩
  | succ m ih =>
    intro x y l h h1 hl hy hw o H
    simp only [revL] at H
    refine w_Placer_nextOrder_83 hs hw ⟨fun c => ?_, fun c => ?_⟩
    · rw [if_neg (by omega)] at H; exact H h hw fr.rfl o
    · rw [if_pos (by omega)] at H
      refine k_swap hs hw hl o (by omega) (by omega) (fun g wg fg og => ⟨rfl, wg, fun y2 h2 y3 h3 => ?_⟩)
      rw [am_w_id (by omega) (by omega)] at h2 h3
      obtain rfl : y2 = ((y - 1 : Nat) : Int) := by omega
      obtain rfl : y3 = ((x + 1 : Nat) : Int) := by omega
      exact ih (x + 1) (y - 1) (swpL l x y) g (by omega) (by rw [swp_len]; exact hl) (by rw [swp_len]; omega) wg og (fun g2 w2 f2 o2 => H g2 w2 (fg.trans f2) o2)
theorem k_next_41 {t n : Nat} {l : List Nat} (hs : am_sc scr) (hw : wf h) (hl : l.length ≤ 6) (o : ordC h l) (hn : n = l.length) (ht : t + 1 < n) (H : ∀ g, wf g → fr [61] [] h g → ordC g (revL 6 (swpL l t (withL l t (n - 1))) (t + 1) (n - 1)) → Q (some (.inl (1))) g) : ∀ k : Nat, k < n → withL l t k = withL l t (n - 1) → am_R (am_prog scr) (d + 1) f_Placer_nextOrder 41 [some (.inr (.inr (((57) : Nat) : Int))), some (.inl ((n : Int))), some (.inl ((t : Int))), some (.inl ((k : Int))), none, none] [] h Q := by
  have wl := with_le (l := l) (t := t) (n - 1)
  have fin : ∀ k : Nat, k = withL l t (n - 1) → am_R (am_prog scr) (d + 1) f_Placer_nextOrder 67 [some (.inr (.inr (((57) : Nat) : Int))), some (.inl ((n : Int))), some (.inl ((t : Int))), some (.inl ((k : Int))), none, none] [] h Q := by
    intro k hk
    refine w_Placer_nextOrder_67 hs hw ?_
    refine k_swap hs hw hl o (by omega) (by omega) (fun g wg fg og => ⟨rfl, wg, fun y2 h2 y3 h3 => ?_⟩)
    rw [am_w_id (by omega) (by omega)] at h2 h3
    obtain rfl : y2 = ((n - 1 : Nat) : Int) := by omega
    obtain rfl : y3 = ((t + 1 : Nat) : Int) := by omega
    refine k_next_83 hs 6 (t + 1) (n - 1) (swpL l t k) g (by omega) (by rw [swp_len]; exact hl) (by rw [swp_len]; omega) wg og (fun g2 w2 f2 o2 => ?_)
    rw [hk] at o2
    exact H g2 w2 (fg.trans f2) o2
  intro k
  induction k with
  | zero =>
    intro hk hq
    simp only [withL] at hq
    exact w_Placer_nextOrder_41 hs hw ⟨fun _ => fin 0 hq, fun c => by omega⟩
  | succ k ih =>
    intro hk hq
    simp only [withL] at hq
    refine w_Placer_nextOrder_41 hs hw ⟨fun c => ?_, fun c => ⟨by omega, by omega, ?_⟩⟩
    · rw [if_pos (by omega)] at hq; exact fin (k + 1) hq
    · rw [if_neg (by omega)] at hq
      rw [Int.toNat_natCast, Int.toNat_natCast, o (k + 1) (by omega), o t (by omega)]
      refine ⟨fun c2 => ?_, fun c2 y hy => ?_⟩
      · rw [if_neg (by omega)] at hq; exact fin (k + 1) hq
      · rw [if_pos (by omega)] at hq
        rw [am_w_id (by omega) (by omega)] at hy
        obtain rfl : y = (k : Int) := by omega
        exact ih (by omega) hq
theorem k_nextOrder {l : List Nat} {n : Nat} (hs : am_sc scr) (hw : wf h) (hl : l.length ≤ 6) (hn : n = l.length) (o : ordC h l) (H0 : nextL l = none → Q (some (.inl (0))) h) (H1 : ∀ g l2, wf g → fr [61] [] h g → nextL l = some l2 → l2.length = l.length → ordC g l2 → Q (some (.inl (1))) g) : am_R (am_prog scr) (d + 1) f_Placer_nextOrder 0 [some (.inr (.inr (((57) : Nat) : Int))), some (.inl ((n : Int))), none, none, none, none] [] h Q := by
  refine w_Placer_nextOrder_0 hs hw (fun y1 h1 => ?_)
  rw [am_w_id (by omega) (by omega)] at h1
  have lp : ∀ (k : Nat) (y : Int), k + 1 ≤ n ∨ k = 0 → (k = 0 → y < 0) → (k ≠ 0 → y = (k : Int) - 1) → turnL l k = turnL l (n - 1) → am_R (am_prog scr) (d + 1) f_Placer_nextOrder 4 [some (.inr (.inr (((57) : Nat) : Int))), some (.inl ((n : Int))), some (.inl (y)), none, none, none] [] h Q := by
    intro k
    induction k with
    | zero =>
      intro y hk hy _ ht
      have hy := hy rfl
      simp only [turnL] at ht
      refine w_Placer_nextOrder_4 hs hw ⟨fun _ => ⟨fun c => absurd hy c, fun _ => H0 ?_⟩, fun c => absurd hy c⟩
      unfold nextL
      rw [← hn, ← ht, if_pos rfl]
    | succ k ih =>
      intro y hk _ hy ht
      obtain rfl : y = (k : Int) := by have := hy (by omega); omega
      simp only [turnL] at ht
      refine w_Placer_nextOrder_4 hs hw ⟨fun c => by omega, fun _ => ⟨by omega, ?_⟩⟩
      rw [am_w_id (x := (k : Int) + 1) (by omega) (by omega), show ((k : Int) + 1).toNat = k + 1 by omega, Int.toNat_natCast, o k (by omega), o (k + 1) (by omega)]
      refine ⟨by omega, fun c => ⟨fun _ y5 h5 => ?_, fun c2 => by omega⟩, fun c y7 h7 => ?_⟩
      · rw [if_neg (by omega)] at ht
        rw [am_w_id (by omega) (by omega)] at h5
        obtain rfl : y5 = ((n - 1 : Nat) : Int) := by omega
        refine k_next_41 hs hw hl o hn (by omega) (fun g wg fg og => ?_) (n - 1) (by omega) rfl
        refine H1 g _ wg fg ?_ ?_ og
        · unfold nextL
          rw [← hn, ← ht, if_neg (by omega)]
          rfl
        · rw [rev_len, swp_len]
      · rw [if_pos (by omega)] at ht
        rw [am_w_id (by omega) (by omega)] at h7
        exact ih y7 (by omega) (fun q => by omega) (fun q => by omega) ht
  exact lp (n - 1) y1 (by omega) (fun q => by omega) (fun q => by omega) rfl
end NX
section SB
variable {scr : Nat × (Nat → Int)} {d : Nat} {h : am_H} {Q : Option am_V → am_H → Prop} {W : Wd} {ser : Nat} {a : Nat → Int} {f : Nat → (Nat → Int) → Int} {B : Int}
theorem k_sortBeds (hs : am_sc scr) (hw : wf h) (wo : wc h W) (x : plW h W 24 ser a) (r : rok a f B) (H : ∀ g, wf g → fr [61] [] h g → ordC g (bedS a 6) → Q none g) : am_R (am_prog scr) d f_Placer_sortBeds 0 [some (.inr (.inr (((57) : Nat) : Int))), some (.inr (.inr (((24) : Nat) : Int))), none, none, none] [] h Q := by
  have p24 : 24 ∈ PL := by decide
  have h4 := r.1.1
  have h1 := r.2.1.1
  have hb : ∀ g, fr [61] [] h g → wf g → am_isO g (g.2.2.2 24 0) 1 ∧ g.2.2.2 (g.2.2.2 24 0).toNat 1 = a 1 ∧ g.2.2.2 (g.2.2.2 24 0).toNat 4 = a 4 ∧ ∀ s, s < 6 → g.2.2.2 25 s = a (16 + s) := by
    intro g fg wg
    have wg2 := wo.fr fg (by decide) (by simp)
    have xg : plW g W 24 ser a := x.fr fg (by decide) (by simp)
    have hsc := (xg.hs wg2).1
    rw [xg.2.2.1.1, Int.toNat_natCast]
    exact ⟨⟨by omega, by rw [Int.toNat_natCast]; exact hsc.2.1⟩, hsc.2.2.1, hsc.2.2.2.2.2.1, fun s hs => (xg.2.2.1.2.1 s hs).1⟩
  have len : ∀ k, (bedS a k).length ≤ k := fun k => by
    have := List.length_filter_le (nowB a) (List.range k)
    rw [List.length_range] at this
    exact this
  refine w_Placer_sortBeds_0 p24 hs hw ?_
  have lp : ∀ (m b : Nat) (g : am_H), b + m = (a 1).toNat → wf g → fr [61] [] h g → ordC g (bedS a b) → am_R (am_prog scr) d f_Placer_sortBeds 4 [some (.inr (.inr (((57) : Nat) : Int))), some (.inr (.inr (((24) : Nat) : Int))), some (.inl (((bedS a b).length : Int))), some (.inl ((b : Int))), none] [] g Q := by
    intro m
    induction m with
    | zero =>
      intro b g hm wg fg o
      obtain ⟨b1, b2, b3, b4⟩ := hb g fg wg
      refine w_Placer_sortBeds_4 p24 hs wg ⟨b1, ?_⟩
      rw [b2]
      refine ⟨fun _ => H g wg fg ?_, fun c => by omega⟩
      rw [← bedS_6 r, ← show b = (a 1).toNat by omega]
      exact o
    | succ m ih =>
      intro b g hm wg fg o
      obtain ⟨b1, b2, b3, b4⟩ := hb g fg wg
      refine w_Placer_sortBeds_4 p24 hs wg ⟨b1, ?_⟩
      rw [b2]
      refine ⟨fun c => by omega, fun _ => ?_⟩
      have lb := len b
      -- by then found or not
      have inner : ∀ (p s : Nat) (g : am_H) (l : List Nat), (s : Int) + p = a 4 → wf g → fr [61] [] h g → ordC g l → ((l = bedS a b ∧ ∀ s' : Nat, s' < s → a (16 + s') ≠ (b : Int)) ∨ (l = bedS a b ++ [b] ∧ ∃ s' : Nat, s' < s ∧ a (16 + s') = (b : Int))) → am_R (am_prog scr) d f_Placer_sortBeds 18 [some (.inr (.inr (((57) : Nat) : Int))), some (.inr (.inr (((24) : Nat) : Int))), some (.inl ((l.length : Int))), some (.inl ((b : Int))), some (.inl ((s : Int)))] [] g Q := by
        intro p
        induction p with
        | zero =>
          intro s g l hs2 wg fg o hl
          obtain ⟨b1, b2, b3, b4⟩ := hb g fg wg
          refine w_Placer_sortBeds_18 p24 hs wg ⟨b1, ?_⟩
          rw [b3]
          refine ⟨fun _ y hy => ?_, fun c => by omega⟩
          rw [am_w_id (by omega) (by omega)] at hy
          obtain rfl : y = ((b + 1 : Nat) : Int) := by omega
          have el : l = bedS a (b + 1) := by
            rw [bedS_succ]
            rcases hl with ⟨q1, q2⟩ | ⟨q1, s', q2, q3⟩
            · rw [if_neg, List.append_nil]
              · exact q1
              · intro z
                obtain ⟨s', z1, z2⟩ := nowB_t.mp z
                exact q2 s' (by omega) z2
            · rw [if_pos (nowB_t.mpr ⟨s', by omega, q3⟩)]; exact q1
          rw [el] at o ⊢
          exact ih (b + 1) g (by omega) wg fg o
        | succ p ih2 =>
          intro s g l hs2 wg fg o hl
          obtain ⟨b1, b2, b3, b4⟩ := hb g fg wg
          refine w_Placer_sortBeds_18 p24 hs wg ⟨b1, ?_⟩
          rw [b3]
          refine ⟨fun c => by omega, fun _ => ⟨by omega, ?_⟩⟩
          rw [Int.toNat_natCast, show (24 + 1 : Nat) = 25 from rfl, b4 s (by omega)]
          refine ⟨fun c y hy => ?_, fun c => ?_⟩
          · rw [am_w_id (by omega) (by omega)] at hy
            obtain rfl : y = ((s + 1 : Nat) : Int) := by omega
            refine ih2 (s + 1) g l (by omega) wg fg o ?_
            rcases hl with ⟨q1, q2⟩ | ⟨q1, s', q2, q3⟩
            · refine Or.inl ⟨q1, fun s' hs' => ?_⟩
              by_cases z : s' = s
              · rw [z]; exact c
              · exact q2 s' (by omega)
            · exact Or.inr ⟨q1, s', by omega, q3⟩
          · have l0 : l = bedS a b := by
              rcases hl with ⟨q1, q2⟩ | ⟨q1, s', q2, q3⟩
              · exact q1
              · exact absurd (by rw [q3, c]) (r.2.1.2.2.2 s' s (by omega) (by omega) (by omega) (by omega) (by omega))
            have ll : l.length ≤ b := by rw [l0]; exact lb
            refine ⟨fun c2 => by omega, fun _ => ⟨by omega, fun h7 e7 y8 h8 y9 h9 => ?_⟩⟩
            rw [am_w_id (by omega) (by omega)] at h8 h9
            obtain rfl : y9 = ((s + 1 : Nat) : Int) := by omega
            rw [Int.toNat_natCast] at e7
            have nxt := ih2 (s + 1) h7 (l ++ [b]) (by omega) (by rw [e7]; exact wg.pa (by decide +kernel)) (by rw [e7]; exact fg.put (Or.inl (by simp))) (fun i hi => ?_) (Or.inr ⟨by rw [l0], s, by omega, c⟩)
            · rw [List.length_append, List.length_singleton, show ((l.length + 1 : Nat) : Int) = y8 by omega] at nxt
              exact nxt
            · rw [List.length_append, List.length_singleton] at hi
              rw [e7]
              simp only [put_at, true_and]
              by_cases z : i = l.length
              · rw [if_pos z, z, List.getD_eq_getElem?_getD, List.getElem?_append_right (by omega)]; simp
              · rw [if_neg z, List.getD_eq_getElem?_getD, List.getElem?_append_left (by omega), ← List.getD_eq_getElem?_getD]
                exact o i (by omega)
      exact inner (a 4).toNat 0 g (bedS a b) (by omega) wg fg o (Or.inl ⟨rfl, fun s' hs' => by omega⟩)
  exact lp (a 1).toNat 0 h (by omega) hw fr.rfl (fun i hi => by simp [bedS] at hi)
end SB
