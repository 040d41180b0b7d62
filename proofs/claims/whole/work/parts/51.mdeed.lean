/-! the reference: deeds -/
theorem ushr16 (x : Int) : 0 ≤ am_ushr x 16 ∧ am_ushr x 16 < 65536 := by
  unfold am_ushr
  generalize (Int32.ofInt x).toUInt32 = u
  have e : ((Int32.ofInt 16).toUInt32 &&& Int32.toUInt32 31) = 16 := by decide +kernel
  rw [e]
  have h : (u >>> 16).toNat = u.toNat / 65536 := by rw [UInt32.toNat_shiftRight]; exact Nat.shiftRight_eq_div_pow _ _
  have h2 : (u >>> 16).toNat < 65536 := by have := u.toNat_lt; omega
  generalize u >>> 16 = w at h2
  have h3 : w.toInt32.toInt = (w.toNat : Int) := by
    show BitVec.toInt w.toBitVec = (w.toBitVec.toNat : Int)
    exact BitVec.toInt_eq_toNat_of_lt (by show 2 * w.toNat < 2 ^ 32; omega)
  rw [h3]
  omega
section MD
variable {scr : Nat × (Nat → Int)} {d : Nat} {h : am_H} {Q : Option am_V → am_H → Prop} {a : Nat → Int} {f : Nat → (Nat → Int) → Int} {B : Int}
theorem k_standNowA (hs : am_sc scr) (hw : wf h) (ha : h.2.2.2 110 = a) (r : rok a f B) (H : Q (some (.inl (stA a))) h) : am_R (am_prog scr) (d + 1) f_M_standNow 0 [some (.inr (.inr ((109 : Nat) : Int)))] [] h Q := by
  have r3 := r.2.2.1
  have o2 := r.1.2.1
  have o3 := r.1.2.2.1
  refine k_standNow hs hw (by rw [ha]; omega) ?_
  rw [ha]
  exact H
theorem k_isOverA (hs : am_sc scr) (hw : wf h) (ha : h.2.2.2 110 = a) (r : rok a f B) (H : Q (some (.inl (if ovA a then 1 else 0))) h) : am_R (am_prog scr) (d + 2) f_M_isOver 0 [some (.inr (.inr ((109 : Nat) : Int))), some (.inl (stA a))] [] h Q := by
  refine k_isOver hs hw r.st.1 (fun z hz => ?_)
  rw [ha, r.over] at hz
  rcases hz with ⟨e, q⟩ | ⟨e, q⟩
  · rw [if_pos q] at H; rw [e]; exact H
  · rw [if_neg q] at H; rw [e]; exact H
theorem k_whyBeatA {v : Int} (hs : am_sc scr) (hw : wf h) (ha : h.2.2.2 110 = a) (r : rok a f B) (hv : -2147483648 ≤ v ∧ v < 2147483648) (H : Q (some (.inl (whyBA a v))) h) : am_R (am_prog scr) (d + 3) f_M_whyBeat 0 [some (.inr (.inr ((109 : Nat) : Int))), some (.inl (stA a)), some (.inr (.inl (v))), none] [] h Q := by
  refine k_whyBeat hs hw (by rw [ha]; exact r.1.1) r.st.1 hv (fun z hz => ?_)
  rw [ha] at hz
  unfold whyB at hz
  rw [r.over] at hz
  unfold whyBA at H
  rcases hz with ⟨e, q⟩ | ⟨e, q, q2⟩ | ⟨e, q, q2⟩
  · rw [if_neg q] at H; rw [e]; exact H
  · rw [if_pos q, if_pos q2] at H; rw [e]; exact H
  · rw [if_pos q, if_neg q2] at H; rw [e]; exact H
theorem k_goesBeat {v : Int} (hs : am_sc scr) (hw : wf h) (ha : h.2.2.2 110 = a) (r : rok a f B) (ho : ¬ ovA a) (hv : 0 ≤ v ∧ v ≤ 9) (hB : B < 1000000) (H : ∀ g, wf g → fr [110, 114, 115] [] h g → g.2.2.2 110 = gbA a f (v - 1) → Q none g) : am_R (am_prog scr) (d + 5) f_M_goesBeat 0 [some (.inr (.inr ((109 : Nat) : Int))), some (.inl (v))] [] h Q := by
  obtain ⟨s1, s2, s3, s4, s5⟩ := r.st
  have r3 := r.2.2.1
  have r5 := r.2.2.2.2
  refine w_M_goesBeat_0 hs hw ?_
  refine k_standNowA hs hw ha r ⟨_, rfl, hw, ?_⟩
  rw [am_w_id (by omega) (by omega), ha]
  refine k_beatTo hs hw ha r.1 s1 (by rw [s2]; have : a 14 ≠ a 3 := fun e => ho (Or.inl e); omega) r.2.2.2.1 (fun g wg fg => ⟨_, rfl, wg, ?_⟩)
  have hb := btA_ok r ho (v - 1)
  have ga : g.2.2.2 110 = a := (fg.c 110 (by decide) (by simp)).trans ha
  refine k_isStand hs wg hb.1 (fun g2 w2 f2 e2 => ⟨rfl, w2, ?_⟩)
  have e3 : g2.2.2.2 110 = setA a (btA a f (v - 1)) := by
    funext j; rw [e2 j, ga]; rfl
  have f3 : fr [110, 114, 115] [] h g2 := (fg.mono (by decide) (by simp)).trans (f2.mono (by decide) (by simp))
  rw [e3]
  have e4 : setA a (btA a f (v - 1)) 15 = btA a f (v - 1) % 2 := rfl
  have e5 : setA a (btA a f (v - 1)) 29 = a 29 := rfl
  rw [e4, e5]
  refine ⟨fun c => ?_, fun c g4 q4 => ?_⟩
  · refine H g2 w2 f3 ?_
    rw [e3]
    funext j
    unfold gbA
    rw [if_neg c]
    split
    · rename_i q; rw [q]; rfl
    · rfl
  · rw [am_w_id (by omega) (by omega)] at q4
    refine H g4 (by rw [q4]; exact w2.pa (by decide +kernel)) (by rw [q4]; exact f3.put (Or.inl (by decide))) ?_
    rw [q4]
    funext j
    simp only [put_at, true_and]
    rw [e3]
    unfold gbA
    rw [if_pos c]
theorem k_areTwo {s o : Int} (hs : am_sc scr) (hw : wf h) (hn : 0 ≤ h.2.2.2 110 4 ∧ h.2.2.2 110 4 ≤ 6) (H : Q (some (.inl (if (0 ≤ s ∧ s < h.2.2.2 110 4) ∧ (0 ≤ o ∧ o < h.2.2.2 110 4) ∧ s ≠ o then 1 else 0))) h) : am_R (am_prog scr) (d + 2) f_M_areTwo 0 [some (.inr (.inr ((109 : Nat) : Int))), some (.inr (.inl (s))), none, some (.inr (.inl (o))), none] [] h Q := by
  refine w_M_areTwo_0 hs hw ?_
  refine k_isSleeper hs hw hn (fun z hz => ⟨_, rfl, hw, fun c => ?_, fun c => ?_⟩)
  · rw [if_neg (by omega)] at H; exact H
  · refine k_isSleeper hs hw hn (fun z2 hz2 => ⟨_, rfl, hw, fun c2 => ?_, fun c2 => ⟨fun c3 => ?_, fun c3 => ?_⟩⟩)
    · rw [if_neg (by omega)] at H; exact H
    · rw [if_neg (by omega)] at H; exact H
    · rw [if_pos (by omega)] at H; exact H
theorem k_changes {s o : Int} (hs : am_sc scr) (hw : wf h) (ha : h.2.2.2 110 = a) (h1 : 0 ≤ s ∧ s < 6) (h2 : 0 ≤ o ∧ o < 6) (H : ∀ g, wf g → fr [110] [] h g → g.2.2.2 110 = chA a s o → Q none g) : am_R (am_prog scr) d f_M_changes 0 [some (.inr (.inr ((109 : Nat) : Int))), some (.inl (s)), some (.inl (o)), none] [] h Q := by
  refine w_M_changes_0 hs hw ?_
  rw [am_w_id (x := 16 + s) (by omega) (by omega), am_w_id (x := 16 + o) (by omega) (by omega)]
  refine ⟨by omega, fun y hy => ⟨by omega, by omega, fun g1 q1 => ⟨by omega, fun g2 q2 => ?_⟩⟩⟩
  refine H g2 (by rw [q2, q1]; exact (hw.pa (by decide +kernel)).pa (by decide +kernel)) (by rw [q2, q1]; exact (fr.rfl.put (Or.inl (by decide))).put (Or.inl (by decide))) ?_
  rw [q2, q1, hy]
  funext j
  simp only [put_at, true_and]
  rw [ha]
  rfl
theorem k_whyNotM {v : Int} (hs : am_sc scr) (hw : wf h) (ha : h.2.2.2 110 = a) (r : rok a f B) (H : Q (some (.inl (whyA a v))) h) : am_R (am_prog scr) (d + 4) f_M_whyNot 0 [some (.inr (.inr ((109 : Nat) : Int))), some (.inr (.inl (v))), none] [] h Q := by
  have h4 := r.1.1
  have i0 : ∀ (p : Prop) [Decidable p], (if p then (1 : Int) else 0) = 0 ↔ ¬ p := by
    intro p _; split <;> simp [*]
  unfold whyA at H
  refine w_M_whyNot_0 hs hw ?_
  refine k_within hs hw ⟨_, rfl, hw, fun c => ?_, fun c => ?_⟩
  · rw [i0] at c
    rw [if_neg c] at H
    refine k_within hs hw ⟨_, rfl, hw, fun c2 => ?_, fun c2 => ?_⟩
    · rw [i0] at c2
      rw [if_neg c2] at H
      refine k_within hs hw ⟨_, rfl, hw, fun c3 => ?_, fun c3 => ?_⟩
      · rw [i0] at c3
        rw [if_neg c3] at H
        refine k_within hs hw ⟨_, rfl, hw, fun c4 => ?_, fun c4 => ?_⟩
        · rw [i0] at c4
          rw [if_neg c4] at H
          exact H
        · rw [i0, Decidable.not_not] at c4
          rw [if_pos c4] at H
          rw [am_W_id (x := v - 200) (by omega) (by omega), td (by omega), am_W_id (by omega) (by omega)]
          refine k_isSleeper hs hw (by rw [ha]; exact h4) (fun z hz => ⟨_, rfl, hw, fun c5 => ?_, fun c5 => ?_⟩)
          · rw [ha] at hz
            rw [if_neg (by omega)] at H; exact H
          · rw [ha] at hz
            rw [if_pos (by omega)] at H; exact H
      · rw [i0, Decidable.not_not] at c3
        rw [if_pos c3] at H
        rw [am_W_id (x := v - 100) (by omega) (by omega), td (by omega), am_W_id (by omega) (by omega), tm (by omega)]
        refine k_areTwo hs hw (by rw [ha]; exact h4) ⟨_, rfl, hw, fun c5 => ?_, fun c5 => ?_⟩
        · rw [i0, ha] at c5
          rw [if_neg (by omega)] at H; exact H
        · rw [i0, Decidable.not_not, ha] at c5
          rw [if_pos (by omega)] at H; exact H
    · rw [i0, Decidable.not_not] at c2
      rw [if_pos c2] at H
      exact H
  · rw [i0, Decidable.not_not] at c
    rw [if_pos c] at H
    refine k_standNowA hs hw ha r ⟨_, rfl, hw, ?_⟩
    exact k_whyBeatA hs hw ha r (by omega) ⟨_, rfl, hw, H⟩
theorem whyA_rg {v : Int} (h : whyA a v = 0) : (0 ≤ v ∧ v ≤ 9 ∧ whyBA a v = 0) ∨ (10 ≤ v ∧ v ≤ 19) ∨ (100 ≤ v ∧ v ≤ 199 ∧ (v - 100) / 10 < a 4 ∧ v % 10 < a 4 ∧ (v - 100) / 10 ≠ v % 10) ∨ (200 ≤ v ∧ v ≤ 299 ∧ (v - 200) / 10 < a 4) := by
  unfold whyA at h
  split at h
  · rename_i q; exact Or.inl ⟨q.1, q.2, h⟩
  · split at h
    · rename_i q; exact Or.inr (Or.inl q)
    · split at h
      · rename_i q1 q2 q
        split at h
        · rename_i q3; exact Or.inr (Or.inr (Or.inl ⟨q.1, q.2, q3⟩))
        · omega
      · split at h
        · rename_i q
          split at h
          · rename_i q3; exact Or.inr (Or.inr (Or.inr ⟨q.1, q.2, q3⟩))
          · omega
        · omega
theorem k_does {v : Int} (hs : am_sc scr) (hw : wf h) (ha : h.2.2.2 110 = a) (r : rok a f B) (hy : whyA a v = 0) (hB : B < 1000000) (H : ∀ g, wf g → fr [110, 114, 115] [] h g → g.2.2.2 110 = doA a f v → Q none g) : am_R (am_prog scr) (d + 6) f_M_does 0 [some (.inr (.inr ((109 : Nat) : Int))), some (.inl (v))] [] h Q := by
  have h4 := r.1.1
  have hr := whyA_rg hy
  unfold doA at H
  refine w_M_does_0 hs hw ⟨fun c => ⟨fun c2 => ⟨fun c3 => ?_, fun c3 => ?_⟩, fun c2 g q => ?_⟩, fun c => ?_⟩
  · rw [if_neg c, if_neg c2, if_neg c3] at H
    rw [am_w_id (x := v - 200) (by omega) (by omega), td (by omega), am_w_id (x := (v - 200) / 10) (by omega) (by omega), am_w_id (by omega) (by omega), tm (by omega)]
    refine ⟨by omega, fun g q => ?_⟩
    refine H g (by rw [q]; exact hw.pa (by decide +kernel)) (by rw [q]; exact fr.rfl.put (Or.inl (by decide))) ?_
    rw [q]
    funext j
    simp only [put_at, true_and]
    rw [ha]
    rfl
  · rw [if_neg c, if_neg c2, if_pos c3] at H
    rw [am_w_id (x := v - 100) (by omega) (by omega), td (by omega), am_w_id (x := (v - 100) / 10) (by omega) (by omega), tm (by omega)]
    exact k_changes hs hw ha (by omega) (by omega) (fun g wg fg eg => ⟨rfl, wg, H g wg (fg.mono (by decide) (by simp)) eg⟩)
  · rw [if_neg c, if_pos c2] at H
    rw [am_w_id (by omega) (by omega)] at q
    refine H g (by rw [q]; exact hw.pa (by decide +kernel)) (by rw [q]; exact fr.rfl.put (Or.inl (by decide))) ?_
    rw [q]
    funext j
    simp only [put_at, true_and]
    rw [ha]
    rfl
  · rw [if_pos c] at H
    have hb : 0 ≤ v ∧ v ≤ 9 ∧ whyBA a v = 0 := by omega
    exact k_goesBeat hs hw ha r (whyBA_0 hb.2.2).2 ⟨hb.1, hb.2.1⟩ hB (fun g wg fg eg => ⟨rfl, wg, H g wg fg eg⟩)
/-- the reference's numbers of a tray -/
def numM (h : am_H) (t : Int) (k : Nat) : Int := h.2.2.2 132 (40 * t.toNat + k)
theorem k_tells_7 {t : Int} {n : Nat} {num : Nat → Int} (hs : am_sc scr) (ht : 0 ≤ t ∧ t < 4) (hn : n ≤ 40) : ∀ (m k : Nat) (h : am_H) (a : Nat → Int) (B : Int), k + m = n → B + m < 1000000 → wf h → h.2.2.2 110 = a → rok a f B → h.2.2.2 131 t.toNat = n → (∀ i, i < n → numM h t i = num i) → (m = 0 → h.2.2.2 109 18 = 0) → (∀ g, wf g → fr [110, 114, 115] [(109, 18)] h g → g.2.2.2 110 = (telA f num m k a).1 → g.2.2.2 109 18 = (telA f num m k a).2.2 → Q (some (.inl (((telA f num m k a).2.1 : Int)))) g) → am_R (am_prog scr) (d + 7) f_M_tells 7 [some (.inr (.inr ((109 : Nat) : Int))), some (.inl (t)), some (.inl ((k : Int)))] [] h Q := by
  intro m
  induction m with
  | zero =>
    intro k h a B hk hB hw ha r h131 hnum h18 H
    refine w_M_tells_7 hs hw ⟨by omega, fun c => ⟨by omega, ?_⟩, fun c => ?_⟩
    · have := H h hw fr.rfl ha (h18 rfl)
      rw [h131]
      rw [show (telA f num 0 k a).2.1 = n by simp [telA]; omega] at this
      exact this
    · rw [h131] at c; omega
  | succ m ih =>
    intro k h a B hk hB hw ha r h131 hnum h18 H
    refine w_M_tells_7 hs hw ⟨by omega, fun c => ?_, fun c => ?_⟩
    · rw [h131] at c; omega
    · have e40 : am_w (am_w (40 * t) + (k : Int)) = 40 * t + (k : Int) := by simp (disch := omega) only [am_w_id, am_W_id]
      rw [e40]
      have ek : ∀ g : am_H, g.2.2.2 132 (40 * t + (k : Int)).toNat = numM g t k := fun g => cg _ (by omega)
      refine ⟨by omega, ?_⟩
      rw [ek h, hnum k (by omega)]
      simp only [telA] at H
      refine k_whyNotM hs hw ha r ⟨_, rfl, hw, fun g1 q1 => ?_⟩
      have w1 : wf g1 := by rw [q1]; exact hw.put np_109_18
      have f1 : fr [110, 114, 115] [(109, 18)] h g1 := by rw [q1]; exact fr.rfl.put (Or.inr (by decide))
      have a1 : g1.2.2.2 110 = a := by rw [q1, put_c (by decide)]; exact ha
      have e18 : g1.2.2.2 109 18 = whyA a (num k) := by rw [q1]; exact put_eq
      have e132 : g1.2.2.2 132 = h.2.2.2 132 := by rw [q1, put_c (by decide)]
      have e131 : g1.2.2.2 131 = h.2.2.2 131 := by rw [q1, put_c (by decide)]
      rw [e18]
      refine ⟨fun c1 => ⟨by omega, ?_⟩, fun c1 => ?_⟩
      · have rg := whyA_rg c1
        have en : am_w (g1.2.2.2 132 (40 * t + (k : Int)).toNat) = num k := by
          rw [e132, ek h, hnum k (by omega)]
          exact am_w_id (by omega) (by omega)
        rw [en]
        refine k_does hs w1 a1 r c1 (by omega) (fun g2 w2 f2 e2 => ⟨rfl, w2, fun y hy => ?_⟩)
        rw [am_w_id (by omega) (by omega)] at hy
        obtain rfl : y = ((k + 1 : Nat) : Int) := by omega
        rw [if_pos c1] at H
        have f3 := f1.trans (f2.mono (M := [110, 114, 115]) (G := [(109, 18)]) (by decide) (by simp))
        refine ih (k + 1) g2 _ (B + 1) (by omega) (by omega) w2 e2 (doA_ok r c1) ?_ ?_ ?_ (fun g3 w3 f4 e3 e4 => H g3 w3 (f3.trans f4) e3 e4)
        · rw [f2.c 131 (by decide) (by simp), e131]; exact h131
        · intro i hi; unfold numM; rw [f2.c 132 (by decide) (by simp), e132]; exact hnum i hi
        · intro _
          rw [f2.f 109 18 (by decide) (by simp), e18]; exact c1
      · rw [if_neg c1] at H
        exact H g1 w1 f1 a1 e18
theorem k_tells {t : Int} {n : Nat} {num : Nat → Int} (hs : am_sc scr) (hw : wf h) (ha : h.2.2.2 110 = a) (r : rok a f B) (hB : B < 900000) (ht : 0 ≤ t ∧ t < 4) (hn : n ≤ 40) (h131 : h.2.2.2 131 t.toNat = n) (hnum : ∀ i, i < n → numM h t i = num i) (H : ∀ g, wf g → fr [110, 114, 115] [(109, 18)] h g → g.2.2.2 110 = (telA f num n 0 a).1 → g.2.2.2 109 18 = (telA f num n 0 a).2.2 → Q (some (.inl (((telA f num n 0 a).2.1 : Int)))) g) : am_R (am_prog scr) (d + 7) f_M_tells 0 [some (.inr (.inr ((109 : Nat) : Int))), some (.inl (t)), none] [] h Q := by
  refine w_M_tells_0 hs hw (fun g q => ?_)
  have f0 : fr [] [(109, 18)] h g := by rw [q]; exact fr.rfl.put (Or.inr (by decide))
  have f1 : fr [110, 114, 115] [(109, 18)] h g := f0.mono (by simp) (by decide)
  refine k_tells_7 hs ht hn n 0 g a B (by omega) (by omega) (by rw [q]; exact hw.put np_109_18) ?_ r ?_ ?_ (fun _ => by rw [q]; exact put_eq) (fun g2 w2 f2 e2 e3 => H g2 w2 (f1.trans f2) e2 e3)
  · rw [f0.c 110 (by simp) (by decide)]; exact ha
  · rw [f0.c 131 (by simp) (by decide)]; exact h131
  · intro i hi; unfold numM; rw [f0.c 132 (by simp) (by decide)]; exact hnum i hi
end MD
