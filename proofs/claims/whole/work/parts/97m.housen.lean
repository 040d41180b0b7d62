/-! house: the reference, whole -/
def EM (g : am_H) (r : PE ⊕ DS) : Prop := match r with
  | .inl e => flM g e
  | .inr ds => g.2.2.2 109 11 = 0 ∧ rwM g ds.1
def nmF (T : Nat → Int) (N p : Nat) (k lo hi : Int) : PE ⊕ (Int × Nat) := eB (wN T N p k) (fun p => nN T N p lo hi)
theorem headF_e {T : Nat → Int} {N : Nat} : headF T N = eB (wN T N 0 0) (fun p => eB (nmF T N p 1 1 6) (fun r1 => eB (nmF T N r1.2 2 1 6) (fun r2 => eB (nmF T N r2.2 3 1 4) (fun r3 => closF T N ((up (up (up row0 1 r1.1) 2 r2.1) 3 r3.1, ds0.2), r3.2))))) := by
  unfold headF nmF
  cases wN T N 0 0 with
  | inl e => rfl
  | inr p =>
    simp only [eB]
    cases wN T N p 1 with
    | inl e => rfl
    | inr p =>
      simp only
      cases nN T N p 1 6 with
      | inl e => rfl
      | inr r1 =>
        simp only
        cases wN T N r1.2 2 with
        | inl e => rfl
        | inr p =>
          simp only
          cases nN T N p 1 6 with
          | inl e => rfl
          | inr r2 =>
            simp only
            cases wN T N r2.2 3 with
            | inl e => rfl
            | inr p => rfl
section HN
variable {scr : Nat × (Nat → Int)} {d : Nat} {h : am_H} {Q : Option am_V → am_H → Prop} {T : Nat → Int} {N p D : Nat} {e : PE} {ds : DS} {x1 : Int}
theorem wf.p109 {k : Nat} {v : Int} (w : wf h) (hk : ∀ q ∈ wr_l, ¬ (q.1 = 109 ∧ q.2.1 = k)) : wf (am_put h 109 k v) := w.put hk
theorem m_h138 (hs : am_sc scr) (hw : wf h) {r : PE ⊕ DS} (E : EM h r) (hr : ∀ ds, r = .inr ds → ∃ p, p ≤ 900 ∧ dsI ds p) (H : ∀ g, wf g → fr [110] [(109, 13), (109, 14)] h g → (match r with
  | .inl e => e.1 ≠ 0 ∧ g.2.2.2 109 13 = e.1 ∧ g.2.2.2 109 14 = e.2 ∧ g.2.2.2 110 = h.2.2.2 110
  | .inr ds => g.2.2.2 109 13 = 0 ∧ g.2.2.2 109 14 = -1 ∧ (∀ j, j < 212 + (ds.1 211).toNat → j ≠ 15 → g.2.2.2 110 j = ds.1 j) ∧ g.2.2.2 110 15 = (if ds.1 4 = 0 then 1 else 0) ∧ ∀ j, 1112 ≤ j → g.2.2.2 110 j = h.2.2.2 110 j) → Q (some (.inl (hoA r))) g) : am_R (am_prog scr) (D + 1) f_M_house 138 [some (.inr (.inr ((109 : Nat) : Int))), some (.inl (x1)), none] [] h Q := by
  refine w_M_house_138 hs hw (fun h1 q1 => ?_)
  have w1 : wf h1 := by rw [q1]; exact hw.put np_109_13
  cases r with
  | inl e =>
    have fl : flM h e := E
    have e1 : h1.2.2.2 109 11 = e.1 := by rw [q1, put_ne (by omega)]; exact fl.1
    rw [e1]
    refine ⟨fun _ h2 q2 => ?_, fun z => absurd z fl.2.1⟩
    have e12 : h1.2.2.2 109 12 = e.2 := by rw [q1, put_ne (by omega)]; exact fl.2.2
    have e2 : h2.2.2.2 109 11 = e.1 := by rw [q2, put_ne (by omega)]; exact e1
    rw [e2]
    refine ⟨fun z => absurd z fl.2.1, fun _ => ?_⟩
    have f2 : fr [110] [(109, 13), (109, 14)] h h2 := by rw [q2, q1]; exact (fr.rfl.put (Or.inr (by decide))).put (Or.inr (by decide))
    refine H h2 (by rw [q2]; exact w1.put np_109_14) f2 ⟨fl.2.1, ?_, ?_, ?_⟩
    · rw [q2, put_ne (by omega), q1, put_eq]; exact fl.1
    · rw [q2, put_eq]; exact e12
    · rw [q2, put_c (by omega), q1, put_c (by omega)]
  | inr ds =>
    obtain ⟨z0, x⟩ : h.2.2.2 109 11 = 0 ∧ rwM h ds.1 := E
    obtain ⟨p, p9, I⟩ := hr ds rfl
    obtain ⟨x1', x2, x3, x4, x5, x6, x7, x8, x9, x10, x11, x12, x13, x14, x15⟩ := I.1
    have e1 : h1.2.2.2 109 11 = 0 := by rw [q1, put_ne (by omega)]; exact z0
    rw [e1]
    refine ⟨fun c => absurd rfl c, fun _ h4 q4 => ?_⟩
    have e4 : h4.2.2.2 109 11 = 0 := by rw [q4, put_ne (by omega)]; exact e1
    rw [e4]
    refine ⟨fun _ => ?_, fun c => absurd rfl c⟩
    have w4 : wf h4 := by rw [q4]; exact w1.put np_109_14
    have f4 : fr [110] [(109, 13), (109, 14)] h h4 := by rw [q4, q1]; exact (fr.rfl.put (Or.inr (by decide))).put (Or.inr (by decide))
    have v13 : h4.2.2.2 109 13 = 0 := by rw [q4, put_ne (by omega), q1, put_eq]; exact z0
    have v14 : h4.2.2.2 109 14 = -1 := by rw [q4, put_eq]
    have lp : ∀ (m k : Nat) (g : am_H), k + m = 1112 → wf g → fr [110] [] h4 g → (∀ j, j < k → g.2.2.2 110 j = h4.2.2.2 113 j) → (∀ j, 1112 ≤ j → g.2.2.2 110 j = h4.2.2.2 110 j) → am_R (am_prog scr) (D + 1) f_M_house 182 [some (.inr (.inr ((109 : Nat) : Int))), some (.inl (x1)), some (.inl ((k : Int)))] [] g Q := by
      intro m
      induction m with
      | zero =>
        intro k g hk wg fg hz hi
        have row : ∀ j, j < 1112 → j < 212 + (ds.1 211).toNat → g.2.2.2 110 j = ds.1 j := fun j hj hj2 => by
          rw [hz j (by omega), f4.c 113 (by decide) (by decide)]
          exact x j hj2
        have c109 : g.2.2.2 109 = h4.2.2.2 109 := fg.c 109 (by decide) (by simp)
        have fin : ∀ (v : Int) (k : am_H), k = am_put g 110 15 v → (if ds.1 4 = 0 then (1 : Int) else 0) = v → Q (some (.inl (k.2.2.2 110 0))) k := by
          intro v k ek hv
          have wk : wf k := by rw [ek]; exact wg.pa (by decide +kernel)
          have e0 : k.2.2.2 110 0 = ds.1 0 := by rw [ek, put_ne (by omega)]; exact row 0 (by omega) (by omega)
          rw [e0]
          have ck : k.2.2.2 109 = h4.2.2.2 109 := by rw [ek, put_c (by omega)]; exact c109
          refine H k wk ?_ ⟨by rw [ck]; exact v13, by rw [ck]; exact v14, fun j hj n => ?_, ?_, fun j hj => ?_⟩
          · rw [ek]
            exact (f4.trans (fg.mono (by simp) (by simp))).put (Or.inl (by decide))
          · rw [ek, put_ne (by omega)]
            by_cases c : j < 1112
            · exact row j c hj
            · omega
          · rw [ek, put_eq, hv]
          · rw [ek, put_ne (by omega), hi j hj, q4, put_c (by omega), q1, put_c (by omega)]
        refine w_M_house_182 hs wg ⟨fun _ => ?_, fun c => by omega⟩
        rw [row 4 (by omega) (by omega)]
        exact ⟨fun c h1 q1 => fin 0 h1 q1 (if_neg c), fun c h2 q2 => fin 1 h2 q2 (if_pos c)⟩
      | succ m ih =>
        intro k g hk wg fg hz hi
        refine w_M_house_182 hs wg ⟨fun c => by omega, fun _ => ⟨by omega, by omega, fun h6 q6 y7 h7 => ?_⟩⟩
        rw [am_w_id (by omega) (by omega)] at h7
        obtain rfl : y7 = ((k + 1 : Nat) : Int) := by omega
        rw [Int.toNat_natCast] at q6
        refine ih (k + 1) h6 (by omega) (by rw [q6]; exact wg.pa (by decide +kernel)) (by rw [q6]; exact fg.put (Or.inl (by decide))) (fun j hj => ?_) (fun j hj => by rw [q6, put_ne (by omega)]; exact hi j hj)
        rw [q6, put_at]
        by_cases c : j = k
        · rw [if_pos ⟨rfl, c⟩, c, fg.c 113 (by decide) (by simp)]
        · rw [if_neg (by omega)]; exact hz j (by omega)
    exact lp 1112 0 h4 (by omega) w4 fr.rfl (fun j hj => by omega) (fun j _ => rfl)
end HN
