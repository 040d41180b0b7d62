/-! house: the reference -/
section HM
variable {scr : Nat × (Nat → Int)} {d : Nat} {h : am_H} {Q : Option am_V → am_H → Prop} {T : Nat → Int} {N p D : Nat} {e : PE} {ds : DS}
theorem m_line (hD : 60 ≤ D) (hs : am_sc scr) (hw : wf h) (t : teM h T N) (o : okM h T N p) (x : rwM h ds.1) (I : dsI ds p) (k26 : tkK T N p ≠ 26) (H : ∀ g, wf g → fr [113] RMF h g → BM T N g (bodyF T N ds p) → Q none g) : am_R (am_prog scr) D f_M_readLine 0 [some (.inr (.inr ((109 : Nat) : Int)))] [] h Q := by
  obtain ⟨D, rfl⟩ : ∃ d, D = d + 1 := ⟨D - 1, by omega⟩
  obtain ⟨x1, x2, x3, x4, x5, x6, x7, x8, x9, x10, x11, x12, x13, x14, x15⟩ := I.1
  refine w_M_readLine_0 hs hw ⟨fun _ => m_is hs hw o ⟨_, rfl, hw, fun c => ?_, fun c => ?_⟩, fun z => absurd o.2 z⟩
  · have c4 := ite10.mp c
    unfold bodyF at H
    rw [if_neg c4] at H
    refine m_is hs hw o ⟨_, rfl, hw, fun c => ?_, fun c => ?_⟩
    · have c7 := ite10.mp c
      rw [if_neg c7] at H
      refine m_eats (by omega) hs hw t o (fun q g wg fg og eg => ⟨_, rfl, wg, fun c => absurd c (by omega), fun _ => ?_⟩) (fun q => ⟨_, rfl, hw, fun _ => ?_, fun c => absurd rfl c⟩)
      · rw [if_pos q] at H
        have xg := x.of eg
        rw [xg 2 (by omega), am_w_id (by omega) (by omega)]
        refine m_takes (by omega) hs wg (t.fr2 fg) og (fun z hz g2 w2 f2 o2 e2 => ⟨_, rfl, w2, fun h4 q4 => ?_⟩) (fun ee he g2 v w2 f2 o2 e2 => ⟨_, rfl, w2, fun h4 q4 => ?_⟩)
        · rw [hz] at H
          rw [q4]
          exact H _ w2.p113 (f113 (fg.trans f2)) (BM.ok (z := ((up ds.1 5 z.1, ds.2), z.2)) o2.p113 ((xg.of e2).put (by omega)))
        · rw [he] at H
          rw [q4]
          exact H _ w2.p113 (f113 (fg.trans f2)) (BM.fl o2.p113)
      · rw [if_neg q] at H
        refine m_eats (by omega) hs hw t o (fun q g wg fg og eg => ⟨_, rfl, wg, fun c => absurd c (by omega), fun _ => ?_⟩) (fun q => ⟨_, rfl, hw, fun _ => ?_, fun c => absurd rfl c⟩)
        · rw [if_pos q] at H
          have xg := x.of eg
          refine m_takes (by omega) hs wg (t.fr2 fg) og (fun z hz g2 w2 f2 o2 e2 => ⟨_, rfl, w2, fun h4 q4 => ?_⟩) (fun ee he g2 v w2 f2 o2 e2 => ⟨_, rfl, w2, fun h4 q4 => ?_⟩)
          · rw [hz] at H
            rw [q4]
            exact H _ w2.p113 (f113 (fg.trans f2)) (BM.ok (z := ((up ds.1 28 z.1, ds.2), z.2)) o2.p113 ((xg.of e2).put (by omega)))
          · rw [he] at H
            rw [q4]
            exact H _ w2.p113 (f113 (fg.trans f2)) (BM.fl o2.p113)
        · rw [if_neg q] at H
          have s114 : ∀ i : Nat, i < 2 → tkK T N p = 11 + (i : Int) → (∀ g, wf g → fr [113] RMF h g → BM T N g (eB (wN T N (tkE T N p) 31) (fun p1 => eB (lawF T N p1) (fun x => .inr (lawS ds i x, x.1)))) → Q none g) → am_R (am_prog scr) (D + 1) f_M_readLine 114 [some (.inr (.inr ((109 : Nat) : Int)))] [] h Q := by
            intro i hi ek HH
            refine w_M_readLine_114 hs hw ?_
            rw [o.1.2.2.2.1, ek, am_w_id (by omega) (by omega), show (11 : Int) + (i : Int) - 11 = (i : Int) by omega]
            exact m_rlaw (by omega) hi hs hw t o x I k26 (fun g wg fg P => ⟨rfl, wg, HH g wg fg P⟩)
          refine m_is hs hw o ⟨_, rfl, hw, fun c => ?_, fun c => ?_⟩
          · have c11 := yes10 c
            rw [if_pos c11] at H
            exact s114 0 (by omega) (by omega) H
          · have c11 := ite10.mp c
            rw [if_neg c11] at H
            refine m_is hs hw o ⟨_, rfl, hw, fun c => ?_, fun c => ?_⟩
            · have c12 := ite10.mp c
              rw [if_neg c12] at H
              exact m_fails hs hw o (by omega) (fun g wg fg og => ⟨rfl, wg, H g wg (fg.mono (by simp) (by decide)) (BM.fl og)⟩)
            · have c12 := yes10 c
              rw [if_pos c12] at H
              exact s114 1 (by omega) (by omega) H
    · have c7 := yes10 c
      rw [if_pos c7] at H
      exact m_opens (by omega) hs hw t o x I (fun g wg fg P => ⟨rfl, wg, H g wg fg P⟩)
  · have c4 := yes10 c
    exact m_sleeper (by omega) hs hw t o x I c4 (fun g wg fg P => ⟨rfl, wg, H g wg fg P⟩)
/-- the reference's row behind a text: what was told, and whether it is still -/
def hoF : List (Nat × Nat) := [(109, 0), (109, 5), (109, 6), (109, 7), (109, 8), (109, 9), (109, 10), (109, 11), (109, 12), (109, 13), (109, 14)]
def hoP (h g : am_H) (r : PE ⊕ DS) : Prop := g.2.2.2 109 5 = 0 ∧ match r with
  | .inl e => e.1 ≠ 0 ∧ g.2.2.2 109 13 = e.1 ∧ g.2.2.2 109 14 = e.2 ∧ g.2.2.2 110 = h.2.2.2 110
  | .inr ds => g.2.2.2 109 13 = 0 ∧ g.2.2.2 109 14 = -1 ∧ (∀ j, j < 212 + (ds.1 211).toNat → j ≠ 15 → g.2.2.2 110 j = ds.1 j) ∧ g.2.2.2 110 15 = (if ds.1 4 = 0 then 1 else 0) ∧ ∀ j, 1112 ≤ j → g.2.2.2 110 j = h.2.2.2 110 j
def hoA (r : PE ⊕ DS) : Int := match r with
  | .inl e => am_w (-30 - e.1)
  | .inr ds => ds.1 0
theorem m_plain (hs : am_sc scr) (hw : wf h) (H : ∀ g, wf g → fr [113] [] h g → (∀ j, j < 1112 → g.2.2.2 113 j = row0 j) → Q none g) : am_R (am_prog scr) D f_M_plain 0 [some (.inr (.inr (((113) : Nat) : Int))), none] [] h Q := by
  have inA : ∀ (g : am_H) (k : Nat), wf g → k < 1112 → am_inA g ((113 : Nat) : Int) 1 (k : Int) := fun g k wg hk => wg.a (i := 113) (n := 1112) (by omega) (by decide +kernel) (by omega) (by omega)
  have no : ((113 : Nat) : Int).toNat ∉ wr_o := by decide +kernel
  have lp : ∀ (m k : Nat) (g : am_H), k + m = 1112 → wf g → fr [113] [] h g → (∀ j, j < k → g.2.2.2 113 j = 0) → am_R (am_prog scr) D f_M_plain 2 [some (.inr (.inr (((113) : Nat) : Int))), some (.inl ((k : Int)))] [] g Q := by
    intro m
    induction m with
    | zero =>
      intro k g hk wg fg hz
      refine w_M_plain_2 hs wg ⟨fun _ => ⟨inA g 1 wg (by omega), no, fun h3 q3 => ?_⟩, fun c => by omega⟩
      have w3 : wf h3 := by rw [q3]; exact wg.p113
      refine ⟨inA h3 2 w3 (by omega), no, fun h6 q6 => ?_⟩
      have w6 : wf h6 := by rw [q6]; exact w3.p113
      refine ⟨inA h6 3 w6 (by omega), no, fun h9 q9 => ?_⟩
      refine H h9 (by rw [q9]; exact w6.p113) ?_ (fun j hj => ?_)
      · rw [q9, q6, q3]; exact ((fg.put (Or.inl (by decide))).put (Or.inl (by decide))).put (Or.inl (by decide))
      · rw [q9, q6, q3]
        unfold row0
        simp only [Int.toNat_natCast]
        rw [put_at, put_at, put_at]
        by_cases c1 : j = 1
        · rw [if_neg (by omega), if_neg (by omega), if_pos ⟨rfl, c1⟩, if_pos (by omega)]
        · by_cases c2 : j = 2
          · rw [if_neg (by omega), if_pos ⟨rfl, c2⟩, if_pos (by omega)]
          · by_cases c3 : j = 3
            · rw [if_pos ⟨rfl, c3⟩, if_pos (by omega)]
            · rw [if_neg (by omega), if_neg (by omega), if_neg (by omega), if_neg (by omega)]; exact hz j (by omega)
    | succ m ih =>
      intro k g hk wg fg hz
      refine w_M_plain_2 hs wg ⟨fun c => by omega, fun _ => ⟨inA g k wg (by omega), no, fun h12 q12 y13 h13 => ?_⟩⟩
      rw [am_w_id (by omega) (by omega)] at h13
      obtain rfl : y13 = ((k + 1 : Nat) : Int) := by omega
      refine ih (k + 1) h12 (by omega) (by rw [q12]; exact wg.p113) (by rw [q12]; exact fg.put (Or.inl (by decide))) (fun j hj => ?_)
      rw [q12, Int.toNat_natCast, Int.toNat_natCast, put_at]
      by_cases c : j = k
      · rw [if_pos ⟨rfl, c⟩]
      · rw [if_neg (by omega)]; exact hz j (by omega)
  refine w_M_plain_0 hs hw ?_
  exact lp 1112 0 h (by omega) hw fr.rfl (fun j hj => by omega)
end HM
