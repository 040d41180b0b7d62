/-! the class: what is kept of earlier plays; calls that do deeds -/
def RG : List Nat := [65, 66, 67, 68, 69, 70, 71, 72, 73, 74, 75, 76, 77, 78, 79, 80, 81, 82, 83, 84, 85, 86, 87, 88, 89, 90, 91, 92, 93, 94]
theorem RG_m {x : Nat} : x ∈ RG ↔ 65 ≤ x ∧ x ≤ 94 := by
  constructor
  · intro hx
    have : ∀ x ∈ RG, 65 ≤ x ∧ x ≤ 94 := by decide
    exact this x hx
  · rintro ⟨h1, h2⟩
    have : ∀ k, k < 30 → 65 + k ∈ RG := by decide
    have := this (x - 65) (by omega)
    rw [show 65 + (x - 65) = x by omega] at this
    exact this
def DL : List Nat := [10, 11, 12, 13, 14, 15, 24, 25, 26, 27, 28, 29] ++ RG
def DF : List (Nat × Nat) := [(63, 1), (63, 2)]
/-- the ring keeps what the row a keeps -/
def rgC (h : am_H) (W : Wd) (ser : Nat) (a : Nat → Int) : Prop := (0 ≤ h.2.2.2 63 1 ∧ h.2.2.2 63 1 < 10) ∧ h.2.2.2 63 2 = a 30 ∧ ∀ i : Nat, (i : Int) < a 30 → plW h W (65 + 3 * ((h.2.2.2 63 1 - a 30 + i) % 10).toNat) ser (hist a i)
section RC
variable {h g : am_H} {W : Wd} {p ser : Nat} {a b : Nat → Int} {L : List Nat} {F : List (Nat × Nat)}
theorem rgC.fr (x : rgC h W ser a) (q : fr L F h g) (h1 : ∀ x ∈ L, x < 63 ∨ 94 < x) (h2 : ∀ x ∈ F, x.1 < 63 ∨ 94 < x.1) : rgC g W ser a := by
  obtain ⟨x1, x2, x3⟩ := x
  have e : ∀ j, g.2.2.2 63 j = h.2.2.2 63 j := fun j => q.f 63 j (fun y => by have := h1 _ y; omega) (fun y => by have := h2 _ y; simp only at this; omega)
  unfold rgC
  rw [e, e]
  refine ⟨x1, x2, fun i hi => (x3 i hi).fr q (fun y hy => ?_) (fun y hy => ?_)⟩
  · have := h1 y hy; omega
  · have := h2 y hy; omega
theorem rgC.row (x : rgC h W ser a) (h30 : a 30 ≤ 10) (e : ∀ j, j < 211 → b j = a j) : rgC h W ser b := by
  obtain ⟨x1, x2, x3⟩ := x
  unfold rgC
  rw [e 30 (by omega)]
  refine ⟨x1, x2, fun i hi => (x3 i hi).row (fun j hj => ?_)⟩
  unfold hist
  by_cases c : 12 ≤ j ∧ j < 30
  · rw [if_pos c, if_pos c, e _ (by omega)]
  · rw [if_neg c, if_neg c, if_neg (by omega), if_neg (by omega), e _ (by omega)]
end RC
section CD
variable {scr : Nat × (Nat → Int)} {d : Nat} {h : am_H} {Q : Option am_V → am_H → Prop} {W : Wd} {p ser : Nat} {a b : Nat → Int} {B : Int}
theorem k_keep (hs : am_sc scr) (hw : wf h) (hp : p ∈ PL) (hp2 : p < 60) (x : plW h W p ser a) {f : Nat → (Nat → Int) → Int} (r : rok a f B) (h30 : 0 ≤ a 30 ∧ a 30 ≤ 10) (al : alike a b) (y : rgC h W ser a) (H : ∀ g, wf g → fr RG DF h g → plW g W p ser a → rgC g W ser (pushA (wasA a) b) → Q none g) : am_R (am_prog scr) (d + 1) f_Past_keep 0 [some (.inr (.inr (((63) : Nat) : Int))), some (.inr (.inr (((p) : Nat) : Int)))] [] h Q := by
  obtain ⟨y1, y2, y3⟩ := y
  obtain ⟨pr, _⟩ := pl_ring hw y1
  refine w_Past_keep_0 hp hs hw ⟨y1, ?_⟩
  generalize hn : h.2.2.2 63 1 = n at y1 y3 pr
  refine k_takeFrom hs hw pr hp (by omega) x r (fun g2 w2 f2 p2 q2 => ⟨rfl, w2, fun g3 e3 => ?_⟩)
  have n2 : ∀ j, g2.2.2.2 63 j = h.2.2.2 63 j := fun j => f2.f 63 j (by simp; omega) (by simp)
  rw [n2, hn, am_w_id (by omega) (by omega), tm (by omega)] at e3
  have w3 : wf g3 := by rw [e3]; exact w2.put np_63_1
  have k2 : g3.2.2.2 63 2 = a 30 := by rw [e3, put_ne (by omega), n2, y2]
  rw [k2, am_w_id (by omega) (by omega)]
  have fin : ∀ z : Int, z = (if a 30 = 10 then 10 else a 30 + 1) → ∀ g6, g6 = am_put g3 63 2 z → Q none g6 := by
    intro z hz g6 e6
    have f3 : fr [] DF g2 g6 := by
      rw [e6, e3]
      exact (fr.rfl.put (Or.inr (by decide))).put (Or.inr (by decide))
    have ff : fr RG DF h g6 := (f2.mono (fun y hy => by
      rw [RG_m]; simp only [List.mem_cons, List.not_mem_nil, or_false] at hy; omega) (by simp)).trans (f3.mono (by simp) (by decide))
    obtain ⟨v0, v1, v2, v3⟩ := push_hist h30 al
    have dd : ∀ x ∈ DF, x.1 = 63 := by decide
    refine H g6 (by rw [e6]; exact w3.put np_63_2) ff (q2.fr f3 (by simp) (fun y hy => by have := dd y hy; omega)) ?_
    have c1 : g6.2.2.2 63 1 = (n + 1) % 10 := by rw [e6, put_ne (by omega), e3, put_eq]
    have c2 : g6.2.2.2 63 2 = z := by rw [e6, put_eq]
    unfold rgC
    rw [c1, c2, v0]
    refine ⟨by omega, hz, fun i hi => ?_⟩
    by_cases q : (i : Int) + 1 = (if a 30 = 10 then 10 else a 30 + 1)
    · rw [v2 i (by rw [v0]; exact q)]
      have e : ((n + 1) % 10 - (if a 30 = 10 then 10 else a 30 + 1) + (i : Int)) % 10 = n := by rw [← q]; omega
      rw [e]
      refine plW.row (plW.fr p2 f3 (by simp) (fun y hy => by have := dd y hy; omega)) (fun j hj => ?_)
      unfold nrm
      rw [if_neg (by omega)]
    · rw [v1 i (by rw [v0]; omega)]
      by_cases c : a 30 = 10
      · rw [if_pos c] at q hi ⊢
        rw [if_pos c]
        have old := y3 (i + 1) (by omega)
        have e : ((n + 1) % 10 - 10 + (i : Int)) % 10 = (n - a 30 + ((i + 1 : Nat) : Int)) % 10 := by omega
        rw [e]
        have ne : (n - a 30 + ((i + 1 : Nat) : Int)) % 10 ≠ n := by omega
        refine (old.fr f2 (fun y hy => ?_) (by simp)).fr f3 (by simp) (fun y hy => by have := dd y hy; omega)
        simp only [List.mem_cons, List.not_mem_nil, or_false] at hy
        omega
      · rw [if_neg c] at q hi ⊢
        rw [if_neg c]
        have old := y3 i (by omega)
        have e : ((n + 1) % 10 - (a 30 + 1) + (i : Int)) % 10 = (n - a 30 + (i : Int)) % 10 := by omega
        rw [e]
        have ne : (n - a 30 + (i : Int)) % 10 ≠ n := by omega
        refine (old.fr f2 (fun y hy => ?_) (by simp)).fr f3 (by simp) (fun y hy => by have := dd y hy; omega)
        simp only [List.mem_cons, List.not_mem_nil, or_false] at hy
        omega
  refine w_jM_min_0 hs w3 ⟨fun c => ⟨_, rfl, w3, fun g6 e6 => ?_⟩, fun c => ⟨_, rfl, w3, fun g6 e6 => ?_⟩⟩
  · exact fin 10 (by rw [if_pos (by omega)]) g6 e6
  · exact fin (a 30 + 1) (by rw [if_neg (by omega)]) g6 e6
theorem k_bringBack {n : Int} (hs : am_sc scr) (hw : wf h) {f : Nat → (Nat → Int) → Int} (r : hok a f B) (hn : 1 ≤ n ∧ n ≤ a 30) (y : rgC h W ser a) (H : ∀ g, wf g → fr [24, 25, 26] DF h g → plW g W 24 ser (undA a n) → rgC g W ser (undA a n) → Q none g) : am_R (am_prog scr) (d + 1) f_Past_bringBack 0 [some (.inr (.inr (((63) : Nat) : Int))), some (.inr (.inr (((24) : Nat) : Int))), some (.inl (n))] [] h Q := by
  obtain ⟨y1, y2, y3⟩ := y
  have h30 := r.2.1
  have p24 : 24 ∈ PL := by decide
  refine w_Past_bringBack_0 p24 hs hw ?_
  generalize hm : h.2.2.2 63 1 = m at y1 y3
  rw [am_w_id (by omega) (by omega)]
  refine k_floorMod hs hw (am_w_id (by omega) (by omega)) (by omega) ⟨_, rfl, hw, fun g3 e3 g4 e4 => ?_⟩
  have k2 : g3.2.2.2 63 2 = a 30 := by rw [e3, put_ne (by omega), y2]
  rw [k2, am_w_id (by omega) (by omega)] at e4
  have w4 : wf g4 := by rw [e4, e3]; exact (hw.put np_63_1).put np_63_2
  have f4 : fr [] DF h g4 := by
    rw [e4, e3]
    exact (fr.rfl.put (Or.inr (by decide))).put (Or.inr (by decide))
  have c1 : g4.2.2.2 63 1 = (m - n) % 10 := by rw [e4, put_ne (by omega), e3, put_eq]
  have c2 : g4.2.2.2 63 2 = a 30 - n := by rw [e4, put_eq]
  have dd : ∀ x ∈ DF, x.1 = 63 := by decide
  have pr := (pl_ring (j := (m - n) % 10) w4 (by omega)).1
  have old := y3 (a 30 - n).toNat (by omega)
  have eo : (m - a 30 + (((a 30 - n).toNat : Nat) : Int)) % 10 = (m - n) % 10 := by omega
  rw [eo] at old
  rw [c1]
  refine ⟨by omega, ?_⟩
  refine k_takeFrom hs w4 p24 pr (by omega) (old.fr f4 (by simp) (fun y hy => by have := dd y hy; omega)) (r.2.2 _ (by omega)) (fun g6 w6 f6 p6 q6 => ⟨rfl, w6, ?_⟩)
  have eu : ∀ j, j < 30 → undA a n j = hist a (a 30 - n).toNat j := by
    intro j hj
    unfold undA hist
    by_cases c : 12 ≤ j ∧ j < 30
    · rw [if_pos c, if_pos c]
    · rw [if_neg c, if_neg c, if_neg (by omega), if_neg (by omega)]
  have e30 : undA a n 30 = a 30 - n := by unfold undA; rw [if_neg (by omega), if_pos rfl]
  refine H g6 w6 ((f4.mono (by simp) (by decide)).trans (f6.mono (by decide) (by simp))) (p6.row eu) ?_
  have g63 : ∀ j, g6.2.2.2 63 j = g4.2.2.2 63 j := fun j => f6.f 63 j (by decide) (by simp)
  unfold rgC
  rw [g63, g63, c1, c2, e30]
  refine ⟨by omega, rfl, fun i hi => ?_⟩
  have e : ((m - n) % 10 - (a 30 - n) + (i : Int)) % 10 = (m - a 30 + (i : Int)) % 10 := by omega
  rw [e]
  refine plW.row (((y3 i (by omega)).fr f4 (by simp) (fun y hy => by have := dd y hy; omega)).fr f6 (fun y hy => ?_) (by simp)) (fun j hj => ?_)
  · simp only [List.mem_cons, List.not_mem_nil, or_false] at hy
    omega
  · unfold hist
    by_cases c : 12 ≤ j ∧ j < 30
    · rw [if_pos c, if_pos c]; unfold undA; rw [if_neg (by omega), if_neg (by omega)]
    · rw [if_neg c, if_neg c, if_neg (by omega), if_neg (by omega)]; unfold undA; rw [if_neg c, if_neg (by omega)]
theorem DF63 : ∀ x ∈ DF, x.1 = 63 := by decide
theorem wc_RG {g : am_H} (w : wc h W) (q : fr RG DF h g) : wc g W := w.fr q (fun y hy => by rw [RG_m] at hy; omega) (fun y hy => by have := DF63 y hy; omega)
theorem k_Sbeat {v : Int} (hs : am_sc scr) (hw : wf h) (w : wc h W) (x : plW h W 24 ser a) (y : rgC h W ser a) (r : hok a (W.2.2.1 ser) B) (hB : B < 900000) (hv : am_w v = v) (H : ∀ g, wf g → fr DL DF h g → wc g W → plW g W 24 ser (q_beat a (W.2.2.1 ser) v).2 → rgC g W ser (q_beat a (W.2.2.1 ser) v).2 → Q (some (.inl ((q_beat a (W.2.2.1 ser) v).1))) g) : am_R (am_prog scr) (d + 4) f_S_beat 0 [some (.inr (.inr (((0) : Nat) : Int))), some (.inl (v)), none] [] h Q := by
  have hr := am_w_rg hv
  have h4 := r.1.1.1
  have p24 : 24 ∈ PL := by decide
  have no : ∀ z : Int, z = 1 ∨ z = 2 → whyBA a v = z → Q (some (.inl (am_w (-10 - z)))) h := by
    intro z hz e
    unfold q_beat at H
    rw [if_neg (by omega), e] at H
    rw [am_w_id (by omega) (by omega)]
    exact H h hw fr.rfl w x y
  refine w_S_beat_0 hs hw ?_
  refine k_isBeat hs hw ⟨_, rfl, hw, fun c => ⟨fun c1 => by omega, fun c1 => ?_⟩, fun c => ?_⟩
  · rw [i0] at c
    exact no 1 (by omega) (by unfold whyBA; rw [if_neg (by omega)])
  · rw [i0, Decidable.not_not] at c
    have ew : whyA a v = whyBA a v := by unfold whyA; rw [if_pos c]
    refine k_whyNotC hs hw p24 w x r.1 ⟨_, rfl, hw, fun c1 => ?_, fun c1 => ?_⟩
    · rw [ew] at c1
      have c2 := whyBA_0 c1
      unfold q_beat at H
      rw [if_pos c1] at H
      refine k_keep (b := gbA a (W.2.2.1 ser) (v - 1)) hs hw p24 (by omega) x r.1 r.2.1 gbA_al y (fun g2 w2 f2 x2 y2 => ⟨rfl, w2, ?_⟩)
      rw [am_w_id (by omega) (by omega)]
      refine k_stepW hs w2 p24 (wc_RG w f2) x2 r.1 (by omega) c2.2 (fun g3 w3 f3 wc3 x3 => ⟨_, rfl, w3, ?_⟩)
      obtain ⟨v0, v1, v2, v3⟩ := push_hist r.2.1 (gbA_al (a := a) (f := W.2.2.1 ser) (wk := v - 1))
      have HH := H g3 w3 ((f2.mono (by decide) (by decide)).trans (f3.mono (by decide) (by decide))) wc3 (x3.row (fun j hj => v3 j (by omega))) (y2.fr f3 (by decide) (by decide))
      obtain ⟨e1, e2, e3, e4, e5, e6⟩ := gbA_e (a := a) (f := W.2.2.1 ser) (wk := v - 1)
      simp only [e5, e3] at HH
      rcases btA_par r.1 c2.2 (v - 1) with ⟨q1, q2, q3⟩ | ⟨q1, q2, q3⟩
      · rw [if_pos q3] at HH; rw [q1]; exact HH
      · rw [if_neg (by omega), q3] at HH; exact HH
    · rw [ew] at c1 ⊢
      have : whyBA a v = 0 ∨ whyBA a v = 1 ∨ whyBA a v = 2 := by
        unfold whyBA
        split
        · split <;> simp
        · simp
      exact no _ (by omega) rfl
theorem k_Sbeats_41 {n : Nat} {f : Nat → (Nat → Int) → Int} (hs : am_sc scr) (hn : n ≤ 99) : ∀ (m k c : Nat) (h : am_H) (a : Nat → Int) (B : Int), f = W.2.2.1 ser → k + m = n → c ≤ k → B + m < 1000000 → wf h → wc h W → plW h W 24 ser a → rok a f B → (∀ g, wf g → fr [10, 11, 12, 13, 14, 15, 24, 25, 26] [] h g → wc g W → plW g W 24 ser (btsA f m a) → Q (some (.inl ((c : Int) + (btsA f m a 29 - a 29)))) g) → am_R (am_prog scr) (d + 4) f_S_beats 41 [some (.inr (.inr (((0) : Nat) : Int))), some (.inl ((n : Int))), some (.inl ((c : Int))), some (.inl ((k : Int)))] [] h Q := by
  intro m
  have p24 : 24 ∈ PL := by decide
  induction m with
  | zero =>
    intro k c h a B hf hk hc hB hw w x r H
    simp only [btsA, Int.sub_self, Int.add_zero] at H
    exact w_S_beats_41 hs hw ⟨fun _ => H h hw fr.rfl w x, fun q => by omega⟩
  | succ m ih =>
    intro k c h a B hf hk hc hB hw w x r H
    simp only [btsA] at H
    refine w_S_beats_41 hs hw ⟨fun q => by omega, fun _ => ?_⟩
    refine k_goesOnC hs hw p24 w x r ⟨_, rfl, hw, fun c1 => ?_, fun c1 => ?_⟩
    · have : ovA a := by
        apply Decidable.byContradiction; intro q; rw [if_neg q] at c1; omega
      rw [if_pos this] at H
      have := H h hw fr.rfl w x
      simp only [Int.sub_self, Int.add_zero] at this
      exact this
    · have ho : ¬ ovA a := by
        intro q; rw [if_pos q] at c1; omega
      rw [if_neg ho] at H
      subst hf
      refine k_stepW hs hw p24 w x r (by omega) ho (fun g wg fg cg pg => ⟨_, rfl, wg, fun c2 y hy => ?_, fun c2 y hy y2 hy2 => ?_⟩)
      all_goals obtain ⟨e1, e2, e3, e4, e5, e6⟩ := gbA_e (a := a) (f := W.2.2.1 ser) (wk := -1)
      all_goals have bp := btA_par r ho (-1)
      · rw [am_w_id (by omega) (by omega)] at hy
        obtain rfl : y = ((k + 1 : Nat) : Int) := by omega
        refine ih (k + 1) c g _ (B + 1) rfl (by omega) (by omega) (by omega) wg cg pg (gbA_ok r ho _) (fun g2 w2 f2 cg2 pg2 => ?_)
        have := H g2 w2 ((fg.mono (by decide) (by decide)).trans f2) cg2 pg2
        rw [e6, if_neg (by omega)]
        exact this
      · rw [am_w_id (by omega) (by omega)] at hy hy2
        obtain rfl : y = ((c + 1 : Nat) : Int) := by omega
        obtain rfl : y2 = ((k + 1 : Nat) : Int) := by omega
        refine ih (k + 1) (c + 1) g _ (B + 1) rfl (by omega) (by omega) (by omega) wg cg pg (gbA_ok r ho _) (fun g2 w2 f2 cg2 pg2 => ?_)
        have := H g2 w2 ((fg.mono (by decide) (by decide)).trans f2) cg2 pg2
        rw [e6, if_pos (by omega), show ((c + 1 : Nat) : Int) + (btsA (W.2.2.1 ser) m (gbA a (W.2.2.1 ser) (-1)) 29 - (a 29 + 1)) = (c : Int) + (btsA (W.2.2.1 ser) m (gbA a (W.2.2.1 ser) (-1)) 29 - a 29) by omega]
        exact this
theorem k_Sbeats {n : Int} (hs : am_sc scr) (hw : wf h) (w : wc h W) (x : plW h W 24 ser a) (y : rgC h W ser a) (r : hok a (W.2.2.1 ser) B) (hB : B < 900000) (H : ∀ g, wf g → fr DL DF h g → wc g W → plW g W 24 ser (q_beats a (W.2.2.1 ser) n).2 → rgC g W ser (q_beats a (W.2.2.1 ser) n).2 → Q (some (.inl ((q_beats a (W.2.2.1 ser) n).1))) g) : am_R (am_prog scr) (d + 4) f_S_beats 0 [some (.inr (.inr (((0) : Nat) : Int))), some (.inl (n)), none, none] [] h Q := by
  have p24 : 24 ∈ PL := by decide
  unfold q_beats at H
  refine w_S_beats_0 hs hw ⟨fun c => ?_, fun c => ⟨fun c2 => ?_, fun c2 => ?_⟩⟩
  · rw [if_neg (by omega)] at H; exact H h hw fr.rfl w x y
  · rw [if_pos (by omega)] at H
    refine k_goesOnC hs hw p24 w x r.1 ⟨_, rfl, hw, fun c3 => ?_, fun c3 => ?_⟩
    · have ho : ¬ ovA a := by
        intro q; rw [if_pos q] at c3; omega
      rw [if_neg ho] at H
      refine k_keep (b := btsA (W.2.2.1 ser) n.toNat a) hs hw p24 (by omega) x r.1 r.2.1 (btsA_al _ _) y (fun g2 w2 f2 x2 y2 => ⟨rfl, w2, ?_⟩)
      have en : n = (n.toNat : Int) := by omega
      rw [en]
      obtain ⟨v0, v1, v2, v3⟩ := push_hist r.2.1 (btsA_al (f := W.2.2.1 ser) n.toNat a)
      refine k_Sbeats_41 (n := n.toNat) (f := W.2.2.1 ser) hs (by omega) n.toNat 0 0 g2 a B rfl (by omega) (by omega) (by omega) w2 (wc_RG w f2) x2 r.1 (fun g3 w3 f3 wc3 x3 => ?_)
      have HH := H g3 w3 ((f2.mono (by decide) (by decide)).trans (f3.mono (by decide) (by simp))) wc3 (x3.row (fun j hj => v3 j (by omega))) (y2.fr f3 (by decide) (by simp))
      simp only [Int.natCast_zero, Int.zero_add]
      exact HH
    · have ho : ovA a := by
        apply Decidable.byContradiction; intro q; rw [if_neg q] at c3; omega
      rw [if_pos ho] at H
      exact H h hw fr.rfl w x y
  · rw [if_neg (by omega)] at H; exact H h hw fr.rfl w x y
theorem k_Schange {s o : Int} (hs : am_sc scr) (hw : wf h) (w : wc h W) (x : plW h W 24 ser a) (y : rgC h W ser a) (r : hok a (W.2.2.1 ser) B) (H : ∀ g, wf g → fr DL DF h g → wc g W → plW g W 24 ser (q_change a s o).2 → rgC g W ser (q_change a s o).2 → Q (some (.inl ((q_change a s o).1))) g) : am_R (am_prog scr) (d + 2) f_S_change 0 [some (.inr (.inr (((0) : Nat) : Int))), some (.inl (s)), some (.inl (o))] [] h Q := by
  have p24 : 24 ∈ PL := by decide
  have h4 := r.1.1.1
  unfold q_change at H
  have no : ¬ ((0 ≤ s ∧ s < a 4) ∧ (0 ≤ o ∧ o < a 4) ∧ s ≠ o) → Q (some (.inl (-11))) h := fun q => by
    rw [if_neg q] at H; exact H h hw fr.rfl w x y
  refine w_S_change_0 hs hw ?_
  refine k_has hs hw p24 w x ⟨_, rfl, hw, fun c => no (by rw [i0] at c; omega), fun c => ?_⟩
  refine k_has hs hw p24 w x ⟨_, rfl, hw, fun c2 => no (by rw [i0] at c2; omega), fun c2 => ⟨fun c3 => ?_, fun c3 => no (by omega)⟩⟩
  rw [i0, Decidable.not_not] at c c2
  rw [if_pos ⟨c, c2, c3⟩] at H
  have al : alike a (chA a s o) := fun j hj => by unfold chA; rw [if_neg (by omega), if_neg (by omega)]
  refine k_keep (b := chA a s o) hs hw p24 (by omega) x r.1 r.2.1 al y (fun g2 w2 f2 x2 y2 => ⟨rfl, w2, ?_⟩)
  refine k_swapBeds hs w2 p24 x2 (by omega) (by omega) (fun g3 w3 f3 x3 => ⟨rfl, w3, by omega, ?_⟩)
  obtain ⟨v0, v1, v2, v3⟩ := push_hist r.2.1 al
  have HH := H g3 w3 ((f2.mono (by decide) (by decide)).trans (f3.mono (by decide) (by simp))) ((wc_RG w f2).fr f3 (by decide) (by simp)) (x3.row (fun j hj => v3 j (by omega))) (y2.fr f3 (by decide) (by simp))
  have e := (pl_bd x3.2.2.1 (s := s) (by omega)).1
  have e2 : chA a s o (16 + s).toNat = a (16 + o).toNat := by
    unfold chA; rw [if_neg (by omega), if_pos rfl]
  rw [e2] at e
  rw [show (25 : Nat) = 24 + 1 by rfl, e]
  exact HH
theorem k_Sdream {s n : Int} (hs : am_sc scr) (hw : wf h) (w : wc h W) (x : plW h W 24 ser a) (y : rgC h W ser a) (r : hok a (W.2.2.1 ser) B) (H : ∀ g, wf g → fr DL DF h g → wc g W → plW g W 24 ser (q_dream a s n).2 → rgC g W ser (q_dream a s n).2 → Q (some (.inl ((q_dream a s n).1))) g) : am_R (am_prog scr) (d + 2) f_S_dream 0 [some (.inr (.inr (((0) : Nat) : Int))), some (.inl (s)), some (.inl (n)), none] [] h Q := by
  have p24 : 24 ∈ PL := by decide
  have h4 := r.1.1.1
  unfold q_dream at H
  have no : ¬ ((0 ≤ s ∧ s < a 4) ∧ 0 ≤ n ∧ n ≤ 9) → Q (some (.inl (-11))) h := fun q => by
    rw [if_neg q] at H; exact H h hw fr.rfl w x y
  refine w_S_dream_0 hs hw ?_
  refine k_has hs hw p24 w x ⟨_, rfl, hw, fun c => no (by rw [i0] at c; omega), fun c => ⟨fun c2 => no (by omega), fun c2 => ⟨fun c3 => ?_, fun c3 => no (by omega)⟩⟩⟩
  rw [i0, Decidable.not_not] at c
  rw [if_pos ⟨c, by omega, by omega⟩] at H
  have al : alike a (drA a s n) := fun j hj => by unfold drA; rw [if_neg (by omega)]
  refine k_keep (b := drA a s n) hs hw p24 (by omega) x r.1 r.2.1 al y (fun g2 w2 f2 x2 y2 => ⟨rfl, w2, by omega, fun y5 e5 => ⟨by omega, fun g7 e7 => ?_⟩⟩)
  have := plW.drm (n := n) w2 p24 x2 (s := s) (by omega)
  rw [← e7] at this
  have f3 : fr [26] [] g2 g7 := by rw [e7]; exact fr.rfl.put (Or.inl (by simp))
  obtain ⟨v0, v1, v2, v3⟩ := push_hist r.2.1 al
  have HH := H g7 this.1 ((f2.mono (by decide) (by decide)).trans (f3.mono (by decide) (by simp))) ((wc_RG w f2).fr f3 (by decide) (by simp)) (this.2.row (fun j hj => v3 j (by omega))) (y2.fr f3 (by decide) (by simp))
  have e := (pl_bd x2.2.2.1 (s := s) (by omega)).2
  rw [show (24 + 2 : Nat) = 26 by rfl] at e
  rw [e] at e5
  rw [e5]
  exact HH
theorem k_Shush {n : Int} (hs : am_sc scr) (hw : wf h) (w : wc h W) (x : plW h W 24 ser a) (y : rgC h W ser a) (r : hok a (W.2.2.1 ser) B) (H : ∀ g, wf g → fr DL DF h g → wc g W → plW g W 24 ser (q_hush a n).2 → rgC g W ser (q_hush a n).2 → Q (some (.inl ((q_hush a n).1))) g) : am_R (am_prog scr) (d + 2) f_S_hush 0 [some (.inr (.inr (((0) : Nat) : Int))), some (.inl (n)), none] [] h Q := by
  have p24 : 24 ∈ PL := by decide
  unfold q_hush at H
  have no : ¬ (0 ≤ n ∧ n ≤ 9) → Q (some (.inl (-11))) h := fun q => by
    rw [if_neg q] at H; exact H h hw fr.rfl w x y
  refine w_S_hush_0 hs hw ⟨fun c => no (by omega), fun c => ⟨fun c2 => ?_, fun c2 => no (by omega)⟩⟩
  rw [if_pos ⟨by omega, by omega⟩] at H
  have al : alike a (huA a n) := fun j hj => by unfold huA; rw [if_neg (by omega)]
  refine k_keep (b := huA a n) hs hw p24 (by omega) x r.1 r.2.1 al y (fun g2 w2 f2 x2 y2 => ⟨rfl, w2, fun y5 e5 g7 e7 => ?_⟩)
  have := plW.hush (n := n) w2 p24 x2
  rw [← e7] at this
  have f3 : fr [24] [] g2 g7 := by rw [e7]; exact fr.rfl.put (Or.inl (by simp))
  obtain ⟨v0, v1, v2, v3⟩ := push_hist r.2.1 al
  have HH := H g7 this.1 ((f2.mono (by decide) (by decide)).trans (f3.mono (by decide) (by simp))) ((wc_RG w f2).fr f3 (by decide) (by simp)) (this.2.row (fun j hj => v3 j (by omega))) (y2.fr f3 (by decide) (by simp))
  rw [x2.2.2.1.2.2.1] at e5
  rw [e5]
  exact HH
theorem k_Sundo {n : Int} (hs : am_sc scr) (hw : wf h) (w : wc h W) (x : plW h W 24 ser a) (y : rgC h W ser a) (r : hok a (W.2.2.1 ser) B) (H : ∀ g, wf g → fr DL DF h g → wc g W → plW g W 24 ser (q_undo a n).2 → rgC g W ser (q_undo a n).2 → Q (some (.inl ((q_undo a n).1))) g) : am_R (am_prog scr) (d + 2) f_S_undo 0 [some (.inr (.inr (((0) : Nat) : Int))), some (.inl (n))] [] h Q := by
  unfold q_undo at H
  have no : ¬ (1 ≤ n ∧ n ≤ a 30) → Q (some (.inl (-3))) h := fun q => by
    rw [if_neg q] at H; exact H h hw fr.rfl w x y
  have e2 := y.2.1
  refine w_S_undo_0 hs hw ⟨fun c => no (by omega), fun c => ?_⟩
  rw [e2]
  refine ⟨fun c2 => ?_, fun c2 => no (by omega)⟩
  rw [if_pos ⟨by omega, c2⟩] at H
  refine k_bringBack hs hw r ⟨by omega, c2⟩ y (fun g wg fg xg yg => ⟨rfl, wg, ?_⟩)
  have e30 : undA a n 30 = a 30 - n := by unfold undA; rw [if_neg (by omega), if_pos rfl]
  rw [yg.2.1, e30]
  exact H g wg (fg.mono (by decide) (by decide)) (w.fr fg (by decide) (by decide)) xg yg
/-- tray t of the class -/
def trC (h : am_H) (t : Nat) (n : Nat) (num : Nat → Int) : Prop := n ≤ 40 ∧ h.2.2.2 t 2 = n ∧ ∀ i, i < n → h.2.2.2 (t + 1) i = num i
theorem trC.fr {L : List Nat} {F : List (Nat × Nat)} {g : am_H} {t n : Nat} {num : Nat → Int} (x : trC h t n num) (q : fr L F h g) (h1 : ∀ x ∈ L, x < t ∨ t + 1 < x) (h2 : ∀ x ∈ F, x.1 < t ∨ t + 1 < x.1) : trC g t n num := by
  refine ⟨x.1, ?_, fun i hi => ?_⟩
  · rw [q.f t 2 (fun y => by have := h1 _ y; omega) (fun y => by have := h2 _ y; simp only at this; omega)]; exact x.2.1
  · rw [q.f (t + 1) i (fun y => by have := h1 _ y; omega) (fun y => by have := h2 _ y; simp only at this; omega)]; exact x.2.2 i hi
theorem k_enactAll_2 {t n : Nat} {num : Nat → Int} {f : Nat → (Nat → Int) → Int} (hs : am_sc scr) (hp : p ∈ PL) (hp2 : p < 60) (ht : t ∈ TR) : ∀ (m k : Nat) (h : am_H) (a : Nat → Int) (B : Int), f = W.2.2.1 ser → k + m = n → B + m < 1000000 → wf h → wc h W → plW h W p ser a → rok a f B → trC h t n num → (∀ g, wf g → fr [10, 11, 12, 13, 14, 15, p, p + 1, p + 2] [] h g → wc g W → plW g W p ser (telA f num m k a).1 → Q (some (.inl (((telA f num m k a).2.1 : Int)))) g) → am_R (am_prog scr) (d + 5) f_S_enactAll 2 [some (.inr (.inr (((0) : Nat) : Int))), some (.inr (.inr (((p) : Nat) : Int))), some (.inr (.inr (((t) : Nat) : Int))), some (.inl ((k : Int)))] [] h Q := by
  intro m
  have tg : 95 ≤ t := by
    have : ∀ t ∈ TR, 95 ≤ t := by decide
    exact this t ht
  induction m with
  | zero =>
    intro k h a B hf hk hB hw w x r tc H
    refine w_S_enactAll_2 hp ht hs hw ?_
    rw [tc.2.1]
    refine ⟨fun _ => ?_, fun q => by omega⟩
    have := H h hw fr.rfl w x
    rw [show (telA f num 0 k a).2.1 = n by simp [telA]; omega] at this
    exact this
  | succ m ih =>
    intro k h a B hf hk hB hw w x r tc H
    simp only [telA] at H
    have tn := tc.1
    refine w_S_enactAll_2 hp ht hs hw ?_
    rw [tc.2.1]
    refine ⟨fun q => by omega, fun _ => ⟨by omega, ?_⟩⟩
    rw [Int.toNat_natCast, tc.2.2 k (by omega)]
    refine k_whyNotC hs hw hp w x r ⟨_, rfl, hw, fun c => ⟨by omega, ?_⟩, fun c => ?_⟩
    · rw [if_pos c] at H
      have rg := whyA_rg c
      rw [tc.2.2 k (by omega), am_w_id (by omega) (by omega)]
      subst hf
      refine k_enact hs hw hp w x r (by omega) c (fun g wg fg cg pg => ⟨rfl, wg, fun y hy => ?_⟩)
      rw [am_w_id (by omega) (by omega)] at hy
      obtain rfl : y = ((k + 1 : Nat) : Int) := by omega
      exact ih (k + 1) g _ (B + 1) rfl (by omega) (by omega) wg cg pg (doA_ok r c) (tc.fr fg (by simp; omega) (by simp)) (fun g2 w2 f2 cg2 pg2 => H g2 w2 (fg.trans f2) cg2 pg2)
    · rw [if_neg c] at H
      exact H h hw fr.rfl w x
theorem k_trayRefusal {t : Int} (hs : am_sc scr) (hw : wf h) (H : Q (some (.inl (if 0 ≤ t ∧ t ≤ 3 then (if h.2.2.2 (95 + 2 * t.toNat) 0 = 0 then 0 else -6) else -2))) h) : am_R (am_prog scr) d f_S_trayRefusal 0 [some (.inr (.inr (((0) : Nat) : Int))), some (.inl (t))] [] h Q := by
  refine w_S_trayRefusal_0 hs hw ⟨fun c => ?_, fun c => ⟨fun c2 => ⟨by omega, fun c3 => ?_, fun c3 => ?_⟩, fun c2 => ?_⟩⟩
  · rw [if_neg (by omega)] at H; exact H
  · rw [if_pos (by omega), if_pos c3] at H; exact H
  · rw [if_pos (by omega), if_neg c3] at H; exact H
  · rw [if_neg (by omega)] at H; exact H
theorem TR_i {t : Int} (ht : 0 ≤ t ∧ t ≤ 3) : 95 + 2 * t.toNat ∈ TR := by
  have : ∀ k, k < 4 → 95 + 2 * k ∈ TR := by decide
  exact this _ (by omega)
theorem k_Sjudge {t v : Int} {n : Nat} {num : Nat → Int} (hs : am_sc scr) (hw : wf h) (w : wc h W) (x : plW h W 24 ser a) (r : hok a (W.2.2.1 ser) B) (hB : B < 900000) (ht : (0 ≤ t ∧ t ≤ 3) → h.2.2.2 (95 + 2 * t.toNat) 0 = 0 → trC h (95 + 2 * t.toNat) n num) (H : ∀ g, wf g → fr [10, 11, 12, 13, 14, 15, 27, 28, 29] [] h g → wc g W → Q (some (.inl (if 0 ≤ v ∧ v ≤ 3 then (if 0 ≤ t ∧ t ≤ 3 then (if h.2.2.2 (95 + 2 * t.toNat) 0 = 0 then q_judge a (W.2.2.1 ser) num n v else -6) else -2) else -2))) g) : am_R (am_prog scr) (d + 6) f_S_judge 0 [some (.inr (.inr (((0) : Nat) : Int))), some (.inl (t)), some (.inl (v)), none, none, none] [] h Q := by
  have p24 : 24 ∈ PL := by decide
  have p27 : 27 ∈ PL := by decide
  have h4 := r.1.1.1
  refine w_S_judge_0 hs hw ⟨fun c => ?_, fun c => ⟨fun c2 => ?_, fun c2 => ?_⟩⟩
  · rw [if_neg (by omega)] at H; exact H h hw fr.rfl w
  · rw [if_pos (by omega)] at H
    refine k_trayRefusal hs hw ⟨_, rfl, hw, fun c3 => ?_, fun c3 => ?_⟩
    · have c4 : 0 ≤ t ∧ t ≤ 3 := by
        apply Decidable.byContradiction; intro q; rw [if_neg q] at c3; omega
      rw [if_pos c4] at c3 H
      have c5 : h.2.2.2 (95 + 2 * t.toNat) 0 = 0 := by
        apply Decidable.byContradiction; intro q; rw [if_neg q] at c3; omega
      rw [if_pos c5] at H
      have tc := ht c4 c5
      have tn := tc.1
      refine k_takeFrom hs hw p27 p24 (by decide) x r.1 (fun g2 w2 f2 x2 y2 => ⟨rfl, w2, by omega, ?_⟩)
      refine w_S_enactAll_0 p27 (TR_i c4) hs w2 ?_
      have wc2 := w.fr f2 (by decide) (by simp)
      have tc2 : trC g2 (95 + 2 * t.toNat) n num := tc.fr f2 (by simp; omega) (by simp)
      refine k_enactAll_2 (f := W.2.2.1 ser) hs p27 (by omega) (TR_i c4) n 0 g2 a B rfl (by omega) (by omega) w2 wc2 x2 r.1 tc2 (fun g3 w3 f3 wc3 x3 => ⟨_, rfl, w3, by omega, ?_⟩)
      have tk := telA_ok (f := W.2.2.1 ser) (num := num) n 0 a B r.1
      have al := telA_al (f := W.2.2.1 ser) (num := num) n 0 a (by omega)
      have tc3 : trC g3 (95 + 2 * t.toNat) n num := tc2.fr f3 (by simp; omega) (by simp)
      have ff : fr [10, 11, 12, 13, 14, 15, 27, 28, 29] [] h g3 := (f2.mono (by decide) (by simp)).trans (f3.mono (by decide) (by simp))
      have HH := H g3 w3 ff wc3
      have st := tk.1.st
      have r3 := tk.1.2.2.1
      have o3 := tk.1.1.2.2.1
      have o2 := tk.1.1.2.1
      have e4 : g3.2.2.2 27 4 = if a 4 = 0 then -1 else (telA (W.2.2.1 ser) num n 0 a).1 12 := by rw [x3.2.2.1.2.2.2.1, st.2.2.1, al 4 (by omega)]
      have e5 : g3.2.2.2 27 5 = (telA (W.2.2.1 ser) num n 0 a).1 13 := by rw [x3.2.2.1.2.2.2.2.1, st.2.2.2.1]
      have e6 : g3.2.2.2 27 6 = (telA (W.2.2.1 ser) num n 0 a).1 14 := by rw [x3.2.2.1.2.2.2.2.2.1, st.2.1]
      have lastc : ∀ (m k : Nat) (a : Nat → Int), ((telA (W.2.2.1 ser) num m k a).2.1 < k + m ∧ (telA (W.2.2.1 ser) num m k a).2.2 ≠ 0 ∧ (telA (W.2.2.1 ser) num m k a).2.2 = whyA (telA (W.2.2.1 ser) num m k a).1 (num (telA (W.2.2.1 ser) num m k a).2.1)) ∨ ((telA (W.2.2.1 ser) num m k a).2.1 = k + m ∧ (telA (W.2.2.1 ser) num m k a).2.2 = 0) := by
        intro m
        induction m with
        | zero => intro k a; exact Or.inr ⟨rfl, rfl⟩
        | succ m ih =>
          intro k a
          simp only [telA]
          split
          · have := ih (k + 1) (doA a (W.2.2.1 ser) (num k))
            rw [show k + (m + 1) = k + 1 + m by omega]
            exact this
          · rename_i q
            exact Or.inl ⟨by simp only; omega, q, rfl⟩
      have lc := lastc n 0 a
      unfold q_judge at HH
      rw [tc3.2.1, e4, e5, e6, am_w_id (x := 10 * (telA (W.2.2.1 ser) num n 0 a).1 14) (by omega) (by omega), am_w_id (by omega) (by omega)]
      refine ⟨fun c6 => ⟨fun c7 => ⟨fun _ => ?_, fun q => by omega⟩, fun c7 => ⟨fun _ => ⟨by omega, by omega, ?_⟩, fun q => by omega⟩, fun c7 => ?_, fun c7 => ?_⟩, fun c6 => ⟨fun c7 => ⟨fun q => by omega, fun _ => ?_⟩, fun c7 => ⟨fun q => by omega, fun _ => ?_⟩, fun c7 => ?_, fun c7 => ?_⟩⟩
      · rw [if_pos c7, if_neg (by omega)] at HH; exact HH
      · rw [if_neg (by omega), if_pos c7] at HH
        rw [Int.toNat_natCast, tc3.2.2 _ (by omega)]
        refine k_whyNotC hs w3 p27 wc3 x3 tk.1 ⟨_, rfl, w3, ?_⟩
        have e7 : (telA (W.2.2.1 ser) num n 0 a).2.2 = whyA (telA (W.2.2.1 ser) num n 0 a).1 (num (telA (W.2.2.1 ser) num n 0 a).2.1) := by
          rcases lc with q | q
          · exact q.2.2
          · omega
        rw [e7] at HH
        exact HH
      · rw [if_neg (by omega), if_neg (by omega), if_pos c7] at HH; exact HH
      · rw [if_neg (by omega), if_neg (by omega), if_neg (by omega)] at HH; exact HH
      · rw [if_pos c7, if_pos (by omega)] at HH; exact HH
      · rw [if_neg (by omega), if_pos c7] at HH
        have e7 : (telA (W.2.2.1 ser) num n 0 a).2.2 = 0 := by omega
        rw [e7] at HH; exact HH
      · rw [if_neg (by omega), if_neg (by omega), if_pos c7] at HH; exact HH
      · rw [if_neg (by omega), if_neg (by omega), if_neg (by omega)] at HH; exact HH
    · have HH := H h hw fr.rfl w
      by_cases c4 : 0 ≤ t ∧ t ≤ 3
      · rw [if_pos c4] at c3 HH ⊢
        by_cases c5 : h.2.2.2 (95 + 2 * t.toNat) 0 = 0
        · rw [if_pos c5] at c3; omega
        · rw [if_neg c5] at HH ⊢; exact HH
      · rw [if_neg c4] at HH ⊢; exact HH
  · rw [if_neg (by omega)] at H; exact H h hw fr.rfl w
end CD
section CE
variable {scr : Nat × (Nat → Int)} {d : Nat} {h : am_H} {Q : Option am_V → am_H → Prop} {W : Wd} {p ser : Nat} {a b : Nat → Int} {B : Int}
theorem k_Sperform {t : Int} {n : Nat} {num : Nat → Int} (hs : am_sc scr) (hw : wf h) (w : wc h W) (x : plW h W 24 ser a) (y : rgC h W ser a) (r : hok a (W.2.2.1 ser) B) (hB : B < 900000) (ht : (0 ≤ t ∧ t ≤ 3) → h.2.2.2 (95 + 2 * t.toNat) 0 = 0 → trC h (95 + 2 * t.toNat) n num) (H : ∀ g, wf g → fr DL DF h g → wc g W → plW g W 24 ser (if 0 ≤ t ∧ t ≤ 3 ∧ h.2.2.2 (95 + 2 * t.toNat) 0 = 0 then (q_perform a (W.2.2.1 ser) num n).2 else a) → rgC g W ser (if 0 ≤ t ∧ t ≤ 3 ∧ h.2.2.2 (95 + 2 * t.toNat) 0 = 0 then (q_perform a (W.2.2.1 ser) num n).2 else a) → Q (some (.inl (if 0 ≤ t ∧ t ≤ 3 then (if h.2.2.2 (95 + 2 * t.toNat) 0 = 0 then (q_perform a (W.2.2.1 ser) num n).1 else -6) else -2))) g) : am_R (am_prog scr) (d + 6) f_S_perform 0 [some (.inr (.inr (((0) : Nat) : Int))), some (.inl (t)), none, none] [] h Q := by
  have p24 : 24 ∈ PL := by decide
  have p27 : 27 ∈ PL := by decide
  have h4 := r.1.1.1
  refine w_S_perform_0 hs hw ?_
  refine k_trayRefusal hs hw ⟨_, rfl, hw, fun c3 => ?_, fun c3 => ?_⟩
  · have c4 : 0 ≤ t ∧ t ≤ 3 := by
      apply Decidable.byContradiction; intro q; rw [if_neg q] at c3; omega
    rw [if_pos c4] at c3 H
    have c5 : h.2.2.2 (95 + 2 * t.toNat) 0 = 0 := by
      apply Decidable.byContradiction; intro q; rw [if_neg q] at c3; omega
    rw [if_pos c5, if_pos ⟨c4.1, c4.2, c5⟩] at H
    have tc := ht c4 c5
    have tn := tc.1
    refine k_takeFrom hs hw p27 p24 (by decide) x r.1 (fun g2 w2 f2 x2 y2 => ⟨rfl, w2, by omega, ?_⟩)
    refine w_S_enactAll_0 p24 (TR_i c4) hs w2 ?_
    have wc2 := w.fr f2 (by decide) (by simp)
    have tc2 : trC g2 (95 + 2 * t.toNat) n num := tc.fr f2 (by simp; omega) (by simp)
    refine k_enactAll_2 (f := W.2.2.1 ser) hs p24 (by omega) (TR_i c4) n 0 g2 a B rfl (by omega) (by omega) w2 wc2 y2 r.1 tc2 (fun g3 w3 f3 wc3 x3 => ⟨_, rfl, w3, ?_⟩)
    have al := telA_al (f := W.2.2.1 ser) (num := num) n 0 a (by omega)
    have ff : fr DL DF h g3 := (f2.mono (by decide) (by simp)).trans (f3.mono (by decide) (by simp))
    have y3 : rgC g3 W ser a := (y.fr f2 (by decide) (by simp)).fr f3 (by decide) (by simp)
    unfold q_perform at H
    refine ⟨fun c6 => ?_, fun c6 => ?_⟩
    · have e := telA_0 (f := W.2.2.1 ser) (num := num) n 0 a (by omega)
      rw [if_neg (by omega)] at H
      rw [e] at x3
      exact H g3 w3 ff wc3 x3 y3
    · rw [if_pos (by omega)] at H
      refine k_keep (b := (telA (W.2.2.1 ser) num n 0 a).1) hs w3 p27 (by omega) (x2.fr f3 (by decide) (by simp)) r.1 r.2.1 al y3 (fun g4 w4 f4 x4 y4 => ⟨rfl, w4, ?_⟩)
      obtain ⟨v0, v1, v2, v3⟩ := push_hist r.2.1 al
      refine H g4 w4 (ff.trans (f4.mono (by decide) (by decide))) (wc_RG wc3 f4) ?_ y4
      refine plW.row (x3.fr f4 (fun y hy => by rw [RG_m] at hy; omega) (fun y hy => by have := DF63 y hy; omega)) (fun j hj => v3 j (by omega))
  · by_cases c4 : 0 ≤ t ∧ t ≤ 3
    · rw [if_pos c4] at c3 H ⊢
      by_cases c5 : h.2.2.2 (95 + 2 * t.toNat) 0 = 0
      · rw [if_pos c5] at c3; omega
      · rw [if_neg c5, if_neg (fun q => c5 q.2.2)] at H
        rw [if_neg c5]; exact H h hw fr.rfl w x y
    · rw [if_neg c4, if_neg (by omega)] at H
      rw [if_neg c4]; exact H h hw fr.rfl w x y
theorem k_drawC {m x : Int} (hs : am_sc scr) (hw : wf h) (hx : h.2.2.2 0 5 = x) (hm : 1 ≤ m ∧ m < 100) (H : ∀ g, wf g → fr [] [(0, 5)] h g → g.2.2.2 0 5 = lcg x → Q (some (.inl (drw x m))) g) : am_R (am_prog scr) (d + 2) f_S_draw 0 [some (.inr (.inr (((0) : Nat) : Int))), some (.inl (m))] [] h Q := by
  refine w_S_draw_0 hs hw (fun g q => ?_)
  rw [hx, lcg_eq] at q
  have e : g.2.2.2 0 5 = lcg x := by rw [q]; exact put_eq
  have wg : wf g := by rw [q]; exact hw.put np_0_5
  have b := ushr16 (lcg x)
  rw [e]
  refine k_rest hs wg (am_w_id (by omega) (by omega)) (by omega) ⟨_, rfl, wg, ?_⟩
  exact H g wg (by rw [q]; exact fr.rfl.put (Or.inr (by decide))) e
theorem k_drawDeed {x : Int} (hs : am_sc scr) (hw : wf h) (hx : h.2.2.2 0 5 = x) (H : ∀ g, wf g → fr [] [(0, 5)] h g → g.2.2.2 0 5 = (deedD x).2 → Q (some (.inl ((deedD x).1))) g) : am_R (am_prog scr) (d + 3) f_S_drawDeed 0 [some (.inr (.inr (((0) : Nat) : Int))), none, none] [] h Q := by
  unfold deedD at H
  have b6 := drw_b (x := x) (m := 6) (by omega)
  refine w_S_drawDeed_0 hs hw ?_
  refine k_drawC hs hw hx (by omega) (fun g1 w1 f1 e1 => ⟨_, rfl, w1, fun c1 => ⟨fun c2 => ⟨fun c3 => ?_, fun c3 => ?_⟩, fun c2 => ?_⟩, fun c1 => ?_⟩)
  · rw [if_neg c1, if_neg c2, if_neg c3] at H
    refine k_drawC hs w1 e1 (by omega) (fun g2 w2 f2 e2 => ⟨_, rfl, w2, fun c4 => ?_, fun c4 => ?_⟩)
    · rw [if_neg c4] at H
      refine k_drawC hs w2 e2 (by omega) (fun g3 w3 f3 e3 => ⟨_, rfl, w3, ?_⟩)
      have b1 := drw_b (x := lcg x) (m := 6) (by omega)
      have b2 := drw_b (x := lcg (lcg x)) (m := 10) (by omega)
      rw [am_w_id (x := 10 * drw (lcg x) 6) (by omega) (by omega), am_w_id (x := 200 + 10 * drw (lcg x) 6) (by omega) (by omega), am_w_id (by omega) (by omega)]
      exact H g3 w3 ((f1.trans f2).trans f3) e3
    · rw [if_pos c4] at H
      refine k_drawC hs w2 e2 (by omega) (fun g3 w3 f3 e3 => ⟨_, rfl, w3, ?_⟩)
      have b1 := drw_b (x := lcg x) (m := 6) (by omega)
      have b2 := drw_b (x := lcg (lcg x)) (m := 6) (by omega)
      rw [am_w_id (x := 10 * drw (lcg x) 6) (by omega) (by omega), am_w_id (x := 100 + 10 * drw (lcg x) 6) (by omega) (by omega), am_w_id (by omega) (by omega)]
      exact H g3 w3 ((f1.trans f2).trans f3) e3
  · rw [if_neg c1, if_neg c2, if_pos c3] at H
    refine k_drawC hs w1 e1 (by omega) (fun g2 w2 f2 e2 => ⟨_, rfl, w2, ?_⟩)
    have b2 := drw_b (x := lcg x) (m := 10) (by omega)
    rw [am_w_id (by omega) (by omega)]
    exact H g2 w2 (f1.trans f2) e2
  · rw [if_neg c1, if_pos c2] at H
    exact k_drawC hs w1 e1 (by omega) (fun g2 w2 f2 e2 => ⟨_, rfl, w2, H g2 w2 (f1.trans f2) e2⟩)
  · rw [if_pos c1] at H
    exact H g1 w1 f1 e1
theorem k_Snight_35 {n : Nat} {sd : Int} {R : Nat → Int} {C : Int} {f : Nat → (Nat → Int) → Int} (hs : am_sc scr) (hn : n ≤ 40) (hR : 0 ≤ R 30 ∧ R 30 ≤ 10) (rR : rok R f C) : ∀ (m k c : Nat) (v : Int) (h : am_H) (a : Nat → Int) (B : Int), f = W.2.2.1 ser → k + m = n → c ≤ k → B + m < 1000000 → wf h → wc h W → plW h W 24 ser a → plW h W 27 ser R → rgC h W ser R → rok a f B → alike R a → (c = 0 → a = R) → h.2.2.2 0 5 = v → (∀ g, wf g → fr DL ((0, 5) :: DF) h g → wc g W → plW g W 24 ser (pifA (nigA f m v c a).2 R (nigA f m v c a).1) → rgC g W ser (pifA (nigA f m v c a).2 R (nigA f m v c a).1) → Q (some (.inl (((nigA f m v c a).2 : Int)))) g) → am_R (am_prog scr) (d + 5) f_S_night 35 [some (.inr (.inr (((0) : Nat) : Int))), some (.inl (sd)), some (.inl ((n : Int))), some (.inl ((c : Int))), some (.inl ((k : Int))), none] [] h Q := by
  intro m
  have p24 : 24 ∈ PL := by decide
  have p27 : 27 ∈ PL := by decide
  induction m with
  | zero =>
    intro k c v h a B hf hk hc hB hw w x z y r al ha hv H
    simp only [nigA] at H
    unfold pifA at H
    refine w_S_night_35 hs hw ⟨fun _ => ⟨fun c1 => ?_, fun c1 => ?_⟩, fun c1 => by omega⟩
    · rw [if_pos (by omega)] at H
      have e := ha (by omega)
      subst e
      exact H h hw fr.rfl w x y
    · rw [if_neg (by omega)] at H
      refine k_keep (b := a) hs hw p27 (by omega) z rR hR al y (fun g4 w4 f4 x4 y4 => ⟨rfl, w4, ?_⟩)
      obtain ⟨v0, v1, v2, v3⟩ := push_hist hR al
      refine H g4 w4 (f4.mono (by decide) (by decide)) (wc_RG w f4) ?_ y4
      exact plW.row (x.fr f4 (fun y hy => by rw [RG_m] at hy; omega) (fun y hy => by have := DF63 y hy; omega)) (fun j hj => v3 j (by omega))
  | succ m ih =>
    intro k c v h a B hf hk hc hB hw w x z y r al ha hv H
    simp only [nigA] at H
    have h4 := r.1.1
    refine w_S_night_35 hs hw ⟨fun c1 => by omega, fun c1 => ?_⟩
    refine k_drawDeed hs hw hv (fun g1 w1 f1 e1 => ⟨_, rfl, w1, ?_⟩)
    have wc1 := w.fr f1 (by simp) (by decide)
    have x1 := x.fr f1 (by simp) (by decide)
    have z1 := z.fr f1 (by simp) (by decide)
    have y1 := y.fr f1 (by simp) (by decide)
    have m1 : fr DL ((0, 5) :: DF) h g1 := f1.mono (by simp) (by decide)
    refine k_whyNotC hs w1 p24 wc1 x1 r ⟨_, rfl, w1, fun c2 q hq => ?_, fun c2 => ?_⟩
    · rw [if_neg c2] at H
      rw [am_w_id (by omega) (by omega)] at hq
      obtain rfl : q = ((k + 1 : Nat) : Int) := by omega
      exact ih (k + 1) c (deedD v).2 g1 a B hf (by omega) (by omega) (by omega) w1 wc1 x1 z1 y1 r al ha e1 (fun g3 w3 f3 wc3 x3 y3 => H g3 w3 (m1.trans f3) wc3 x3 y3)
    · rw [if_pos c2] at H
      subst hf
      refine k_enact hs w1 p24 wc1 x1 r (by omega) c2 (fun g2 w2 f2 wc2 x2 => ⟨rfl, w2, fun q hq q2 hq2 => ?_⟩)
      rw [am_w_id (by omega) (by omega)] at hq hq2
      obtain rfl : q = ((c + 1 : Nat) : Int) := by omega
      obtain rfl : q2 = ((k + 1 : Nat) : Int) := by omega
      have m2 : fr DL ((0, 5) :: DF) g1 g2 := f2.mono (by decide) (by simp)
      exact ih (k + 1) (c + 1) (deedD v).2 g2 _ (B + 1) rfl (by omega) (by omega) (by omega) w2 wc2 x2 (z1.fr f2 (by decide) (by simp)) (y1.fr f2 (by decide) (by simp)) (doA_ok r c2) (al.trans (doA_al (by omega) c2)) (by omega) (by rw [f2.f 0 5 (by decide) (by simp)]; exact e1) (fun g3 w3 f3 wc3 x3 y3 => H g3 w3 ((m1.trans m2).trans f3) wc3 x3 y3)
theorem k_Snight {v n : Int} (hs : am_sc scr) (hw : wf h) (w : wc h W) (x : plW h W 24 ser a) (y : rgC h W ser a) (r : hok a (W.2.2.1 ser) B) (hB : B < 900000) (H : ∀ g, wf g → fr DL ((0, 5) :: DF) h g → wc g W → plW g W 24 ser (q_night a (W.2.2.1 ser) v n).2 → rgC g W ser (q_night a (W.2.2.1 ser) v n).2 → Q (some (.inl ((q_night a (W.2.2.1 ser) v n).1))) g) : am_R (am_prog scr) (d + 5) f_S_night 0 [some (.inr (.inr (((0) : Nat) : Int))), some (.inl (v)), some (.inl (n)), none, none, none] [] h Q := by
  have p24 : 24 ∈ PL := by decide
  have p27 : 27 ∈ PL := by decide
  unfold q_night at H
  have no : ¬ (1 ≤ n ∧ n ≤ 40) → Q (some (.inl (-3))) h := fun q => by
    rw [if_neg q] at H; exact H h hw fr.rfl w x y
  refine w_S_night_0 hs hw ⟨fun c => no (by omega), fun c => ⟨fun c2 => ?_, fun c2 => no (by omega)⟩⟩
  rw [if_pos ⟨by omega, c2⟩] at H
  refine k_takeFrom hs hw p27 p24 (by decide) x r.1 (fun g2 w2 f2 x2 y2 => ⟨rfl, w2, fun g3 e3 => ?_⟩)
  have w3 : wf g3 := by rw [e3]; exact w2.put np_0_5
  have f3 : fr [] [(0, 5)] g2 g3 := by rw [e3]; exact fr.rfl.put (Or.inr (by decide))
  have ff : fr DL ((0, 5) :: DF) h g3 := (f2.mono (by decide) (by simp)).trans (f3.mono (by simp) (by decide))
  have en : n = (n.toNat : Int) := by omega
  rw [en]
  refine k_Snight_35 (n := n.toNat) (R := a) (C := B) (f := W.2.2.1 ser) hs (by omega) r.2.1 r.1 n.toNat 0 0 v g3 a B rfl (by omega) (by omega) (by omega) w3 ((w.fr f2 (by decide) (by simp)).fr f3 (by simp) (by decide)) (y2.fr f3 (by simp) (by decide)) (x2.fr f3 (by simp) (by decide)) ((y.fr f2 (by decide) (by simp)).fr f3 (by simp) (by decide)) r.1 alike.rfl (fun _ => rfl) (by rw [e3]; exact put_eq) (fun g4 w4 f4 wc4 x4 y4 => ?_)
  have e : pifA (nigA (W.2.2.1 ser) n.toNat v 0 a).2 a (nigA (W.2.2.1 ser) n.toNat v 0 a).1 = if 0 < (nigA (W.2.2.1 ser) n.toNat v 0 a).2 then pushA (wasA a) (nigA (W.2.2.1 ser) n.toNat v 0 a).1 else a := by
    unfold pifA
    by_cases q : (nigA (W.2.2.1 ser) n.toNat v 0 a).2 = 0
    · rw [if_pos q, if_neg (by omega)]
      exact nigA_0 _ _ _ _ q
    · rw [if_neg q, if_pos (by omega)]
  rw [e] at x4 y4
  exact H g4 w4 (ff.trans f4) wc4 x4 y4
end CE
