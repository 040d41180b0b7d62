/-! bytes on the tape -/
theorem and255 {v : Int} (hv : am_w v = v) : am_and v 255 = v % 256 := by
  have vb : -2147483648 ≤ v ∧ v < 2147483648 := am_w_rg hv
  have n : (Int32.ofInt v &&& Int32.ofInt 255).toBitVec.toNat = (v % 256).toNat := by
    show ((Int32.ofInt v).toBitVec &&& (Int32.ofInt 255).toBitVec).toNat = _
    rw [BitVec.toNat_and, bv32 (a := 255) (by omega)]
    show (BitVec.ofInt 32 v).toNat &&& (255 : Int).toNat = _
    rw [BitVec.toNat_ofInt, show (255 : Int).toNat = 2 ^ 8 - 1 from rfl, Nat.and_two_pow_sub_one_eq_mod]
    omega
  unfold am_and
  rw [ti32 (by rw [n]; omega), n]
  omega
theorem bmod256 {x : Int} : Int.bmod (Int.bmod x 256) 256 = Int.bmod x 256 ∧ Int.bmod x 256 % 256 = x % 256 := by
  have h : ∀ y : Int, Int.bmod y 256 % 256 = y % 256 ∧ -128 ≤ Int.bmod y 256 ∧ Int.bmod y 256 < 128 := by
    intro y
    unfold Int.bmod
    simp only
    split <;> omega
  have h1 := h x
  refine ⟨?_, h1.1⟩
  exact Int.bmod_eq_of_le (by omega) (by omega)
/-- byte k of five ints -/
def fbA (X : Nat → Int) (k : Nat) : Int := X (k / 4) / ((2 ^ (24 - 8 * (k % 4)) : Nat) : Int)
section FD
variable {scr : Nat × (Nat → Int)} {d : Nat} {h : am_H} {Q : Option am_V → am_H → Prop} {X : Nat → Int}
theorem shr_b {v k : Int} (hv : am_w v = v) (hk : 0 ≤ k ∧ k < 32) : am_shr v k = v / ((2 ^ k.toNat : Nat) : Int) ∧ am_w (am_shr v k) = am_shr v k := by
  have e := shr32 hv hk
  have p : (0 : Int) < ((2 ^ k.toNat : Nat) : Int) := by
    have := Nat.two_pow_pos k.toNat; omega
  have vb : -2147483648 ≤ v ∧ v < 2147483648 := am_w_rg hv
  refine ⟨e, ?_⟩
  rw [e]
  by_cases q : 0 ≤ v
  · have h1 : 0 ≤ v / ((2 ^ k.toNat : Nat) : Int) := Int.ediv_nonneg q (by omega)
    have h2 : v / ((2 ^ k.toNat : Nat) : Int) ≤ v := Int.ediv_le_self _ q
    exact am_w_id (by omega) (by omega)
  · have h1 : v / ((2 ^ k.toNat : Nat) : Int) < 0 := Int.ediv_neg_of_neg_of_pos (by omega) p
    have h2 : v ≤ v / ((2 ^ k.toNat : Nat) : Int) := by
      refine (Int.le_ediv_iff_mul_le p).mpr ?_
      have : v * ((2 ^ k.toNat : Nat) : Int) ≤ v * 1 := Int.mul_le_mul_of_nonpos_left (by omega) (by omega)
      omega
    exact am_w_id (by omega) (by omega)
theorem k_Mfeed (hs : am_sc scr) (hw : wf h) (hX : ∀ i, i < 5 → am_w (X i) = X i) (hz : 0 ≤ h.2.2.2 109 5 ∧ h.2.2.2 109 5 ≤ 900) (H : ∀ g, wf g → fr [112] [(109, 0), (109, 5)] h g → (h.2.2.2 109 5 + 20 ≤ 900 → g.2.2.2 109 5 = h.2.2.2 109 5 + 20 ∧ ∀ j : Nat, g.2.2.2 112 j = if h.2.2.2 109 5 ≤ (j : Int) ∧ (j : Int) < h.2.2.2 109 5 + 20 then fbA X (j - (h.2.2.2 109 5).toNat) % 256 else h.2.2.2 112 j) → (¬ h.2.2.2 109 5 + 20 ≤ 900 → g.2.2.2 109 5 = h.2.2.2 109 5 ∧ g.2.2.2 112 = h.2.2.2 112) → Q (some (.inl (if h.2.2.2 109 5 + 20 ≤ 900 then h.2.2.2 109 5 + 20 else -5))) g) : am_R (am_prog scr) d f_M_feed 0 [some (.inr (.inr ((109 : Nat) : Int))), some (.inl (X 0)), some (.inl (X 1)), some (.inl (X 2)), some (.inl (X 3)), some (.inl (X 4)), none, none] [] h Q := by
  refine w_M_feed_0 hs hw (fun g1 q1 => ?_)
  have w1 : wf g1 := by rw [q1]; exact (put0 hw).1
  have f0 : fr [] [(109, 0)] h g1 := by rw [q1]; exact (put0 hw).2
  have e5 : g1.2.2.2 109 5 = h.2.2.2 109 5 := f0.f 109 5 (by simp) (by decide)
  have e112 : g1.2.2.2 112 = h.2.2.2 112 := f0.c 112 (by simp) (by decide)
  rw [e5, am_w_id (x := h.2.2.2 109 5 + 20) (by omega) (by omega)]
  refine ⟨fun c => ?_, fun c => ?_⟩
  · rw [if_pos c] at H
    have lp : ∀ (m k : Nat) (g : am_H), k + m = 20 → wf g → fr [112] [(109, 0), (109, 5)] h g → g.2.2.2 109 5 = h.2.2.2 109 5 + k → (∀ j : Nat, g.2.2.2 112 j = if h.2.2.2 109 5 ≤ (j : Int) ∧ (j : Int) < h.2.2.2 109 5 + k then fbA X (j - (h.2.2.2 109 5).toNat) % 256 else h.2.2.2 112 j) → am_R (am_prog scr) d f_M_feed 24 [some (.inr (.inr ((109 : Nat) : Int))), some (.inl (X 0)), some (.inl (X 1)), some (.inl (X 2)), some (.inl (X 3)), some (.inl (X 4)), some (.inl ((k : Int))), none] [] g Q := by
      intro m
      induction m with
      | zero =>
        intro k g hk wg fg eg et
        rw [show k = 20 by omega] at eg et
        have HH := H g wg fg (fun _ => ⟨eg, et⟩) (fun q => absurd c q)
        refine w_M_feed_24 hs wg ⟨fun _ => ?_, fun c => by omega⟩
        rw [eg]; exact HH
      | succ m ih =>
        intro k g hk wg fg eg et
        have one : ∀ x : Int, x = X (k / 4) → ((0 ≤ g.2.2.2 109 5 ∧ g.2.2.2 109 5 < 900) ∧ (∀ h2 : am_H, h2 = am_put g 112 (g.2.2.2 109 5).toNat (am_and (am_shr x (am_w (24 - am_w (8 * ((k : Int).tmod 4))))) 255) → (∀ h3 : am_H, h3 = am_put h2 109 5 (am_w ((h2.2.2.2 109 5) + 1)) → (∀ y4 : Int, y4 = am_w ((k : Int) + 1) → (am_R (am_prog scr) d f_M_feed 24 [some (.inr (.inr ((109 : Nat) : Int))), some (.inl (X 0)), some (.inl (X 1)), some (.inl (X 2)), some (.inl (X 3)), some (.inl (X 4)), some (.inl (y4)), none] [] h3 Q))))) := by
          intro x hx
          refine ⟨by omega, fun h2 e2 h3 e3 y4 h4 => ?_⟩
          rw [am_w_id (by omega) (by omega)] at h4
          obtain rfl : y4 = ((k + 1 : Nat) : Int) := by omega
          have sx := shr_b (hX (k / 4) (by omega)) (k := ((24 - 8 * (k % 4) : Nat) : Int)) (by omega)
          have va : am_and (am_shr x (am_w (24 - am_w (8 * ((k : Int).tmod 4))))) 255 = fbA X k % 256 := by
            rw [tm (by omega), am_w_id (x := 8 * ((k : Int) % 4)) (by omega) (by omega), am_w_id (x := 24 - 8 * ((k : Int) % 4)) (by omega) (by omega), show 24 - 8 * ((k : Int) % 4) = ((24 - 8 * (k % 4) : Nat) : Int) by omega, hx, and255 sx.2, sx.1, Int.toNat_natCast]
            rfl
          rw [va] at e2
          have n5 : h2.2.2.2 109 5 = h.2.2.2 109 5 + k := by rw [e2, put_ne (by omega)]; exact eg
          rw [n5, am_w_id (by omega) (by omega)] at e3
          refine ih (k + 1) h3 (by omega) (by rw [e3, e2]; exact (wg.pa (by decide +kernel)).put np_109_5) (by rw [e3, e2]; exact (fg.put (Or.inl (by decide))).put (Or.inr (by decide))) (by rw [e3, put_eq]; omega) (fun j => ?_)
          rw [e3, put_ne (by omega), e2]
          simp only [put_at, true_and]
          rw [eg]
          by_cases q : j = (h.2.2.2 109 5 + k).toNat
          · rw [if_pos q, if_pos (by omega), show j - (h.2.2.2 109 5).toNat = k by omega]
          · rw [if_neg q, et j]
            by_cases q2 : h.2.2.2 109 5 ≤ (j : Int) ∧ (j : Int) < h.2.2.2 109 5 + k
            · rw [if_pos q2, if_pos (by omega)]
            · rw [if_neg q2, if_neg (by omega)]
        refine w_M_feed_24 hs wg ⟨fun c => by omega, fun _ => ⟨fun c1 => ⟨fun c2 => ⟨fun c3 => ⟨fun c4 => one _ ?_, fun c4 => one _ ?_⟩, fun c3 => one _ ?_⟩, fun c2 => one _ ?_⟩, fun c1 => one _ ?_⟩⟩
        · rw [show k / 4 = 4 by omega]
        · rw [show k / 4 = 3 by omega]
        · rw [show k / 4 = 2 by omega]
        · rw [show k / 4 = 1 by omega]
        · rw [show k / 4 = 0 by omega]
    exact lp 20 0 g1 rfl w1 (f0.mono (by simp) (by decide)) (by rw [e5]; simp) (fun j => by rw [if_neg (by omega), e112])
  · rw [if_neg c] at H
    exact H g1 w1 (f0.mono (by simp) (by decide)) (fun q => absurd q c) (fun _ => ⟨e5, e112⟩)
theorem k_onTape {x : Int} {b : Nat → Int} (hs : am_sc scr) (hw : wf h) (hx : am_w x = x) (hz : 0 ≤ h.2.2.2 0 1 ∧ h.2.2.2 0 1 + 4 ≤ 900) (hb : ∀ k : Nat, k < 4 → b k = x / ((2 ^ (24 - 8 * k) : Nat) : Int)) (H : ∀ g, wf g → fr [1] [(0, 1)] h g → g.2.2.2 0 1 = h.2.2.2 0 1 + 4 → (∀ j : Nat, g.2.2.2 1 j = if h.2.2.2 0 1 ≤ (j : Int) ∧ (j : Int) < h.2.2.2 0 1 + 4 then Int.bmod (b (j - (h.2.2.2 0 1).toNat)) 256 else h.2.2.2 1 j) → Q none g) : am_R (am_prog scr) d f_S_putOnTape 0 [some (.inr (.inr (((0) : Nat) : Int))), some (.inl (x)), none] [] h Q := by
  refine w_S_putOnTape_0 hs hw ?_
  have lp : ∀ (m k : Nat) (g : am_H), k + m = 4 → wf g → fr [1] [(0, 1)] h g → g.2.2.2 0 1 = h.2.2.2 0 1 + k → (∀ j : Nat, g.2.2.2 1 j = if h.2.2.2 0 1 ≤ (j : Int) ∧ (j : Int) < h.2.2.2 0 1 + k then Int.bmod (b (j - (h.2.2.2 0 1).toNat)) 256 else h.2.2.2 1 j) → am_R (am_prog scr) d f_S_putOnTape 3 [some (.inr (.inr (((0) : Nat) : Int))), some (.inl (x)), some (.inl (24 - 8 * (k : Int)))] [] g Q := by
    intro m
    induction m with
    | zero =>
      intro k g hk wg fg eg et
      rw [show k = 4 by omega] at eg et ⊢
      exact w_S_putOnTape_3 hs wg ⟨fun _ => H g wg fg eg et, fun c => by omega⟩
    | succ m ih =>
      intro k g hk wg fg eg et
      refine w_S_putOnTape_3 hs wg ⟨fun c => by omega, fun _ => ⟨fun c => by omega, fun _ => ⟨by omega, fun h2 e2 h3 e3 y4 h4 => ?_⟩⟩⟩
      rw [am_w_id (by omega) (by omega)] at h4
      obtain rfl : y4 = 24 - 8 * ((k + 1 : Nat) : Int) := by omega
      have sx := shr_b hx (k := 24 - 8 * (k : Int)) (by omega)
      rw [bmod256.1, sx.1, show (24 - 8 * (k : Int)).toNat = 24 - 8 * k by omega, ← hb k (by omega)] at e2
      have n5 : h2.2.2.2 0 1 = h.2.2.2 0 1 + k := by rw [e2, put_ne (by omega)]; exact eg
      rw [n5, am_w_id (by omega) (by omega)] at e3
      refine ih (k + 1) h3 (by omega) (by rw [e3, e2]; exact (wg.pa (by decide +kernel)).put np_0_1) (by rw [e3, e2]; exact (fg.put (Or.inl (by decide))).put (Or.inr (by decide))) (by rw [e3, put_eq]; omega) (fun j => ?_)
      rw [e3, put_ne (by omega), e2]
      simp only [put_at, true_and]
      rw [eg]
      by_cases q : j = (h.2.2.2 0 1 + k).toNat
      · rw [if_pos q, if_pos (by omega), show j - (h.2.2.2 0 1).toNat = k by omega]
      · rw [if_neg q, et j]
        by_cases q2 : h.2.2.2 0 1 ≤ (j : Int) ∧ (j : Int) < h.2.2.2 0 1 + k
        · rw [if_pos q2, if_pos (by omega)]
        · rw [if_neg q2, if_neg (by omega)]
  exact lp 4 0 h rfl hw fr.rfl (by simp) (fun j => by rw [if_neg (by omega)])
theorem k_Sfeed (hs : am_sc scr) (hw : wf h) (hX : ∀ i, i < 5 → am_w (X i) = X i) (hz : 0 ≤ h.2.2.2 0 1 ∧ h.2.2.2 0 1 ≤ 900) (H : ∀ g, wf g → fr [1] [(0, 1)] h g → (h.2.2.2 0 1 + 20 ≤ 900 → g.2.2.2 0 1 = h.2.2.2 0 1 + 20 ∧ ∀ j : Nat, g.2.2.2 1 j = if h.2.2.2 0 1 ≤ (j : Int) ∧ (j : Int) < h.2.2.2 0 1 + 20 then Int.bmod (fbA X (j - (h.2.2.2 0 1).toNat)) 256 else h.2.2.2 1 j) → (¬ h.2.2.2 0 1 + 20 ≤ 900 → g.2.2.2 0 1 = h.2.2.2 0 1 ∧ g.2.2.2 1 = h.2.2.2 1) → Q (some (.inl (if h.2.2.2 0 1 + 20 ≤ 900 then h.2.2.2 0 1 + 20 else -5))) g) : am_R (am_prog scr) (d + 1) f_S_feed 0 [some (.inr (.inr (((0) : Nat) : Int))), some (.inl (X 0)), some (.inl (X 1)), some (.inl (X 2)), some (.inl (X 3)), some (.inl (X 4))] [] h Q := by
  refine w_S_feed_0 hs hw ?_
  rw [am_w_id (x := h.2.2.2 0 1 + 20) (by omega) (by omega)]
  refine ⟨fun c => ?_, fun c => ?_⟩
  · rw [if_pos c] at H
    have fb : ∀ i k : Nat, i < 5 → k < 4 → fbA X (4 * i + k) = X i / ((2 ^ (24 - 8 * k) : Nat) : Int) := by
      intro i k hi hk
      unfold fbA
      rw [show (4 * i + k) / 4 = i by omega, show (4 * i + k) % 4 = k by omega]
    refine k_onTape (b := fun k => fbA X (4 * 0 + k)) hs hw (hX 0 (by omega)) (by omega) (fun k hk => fb 0 k (by omega) hk) (fun g1 w1 f1 e1 t1 => ⟨rfl, w1, ?_⟩)
    refine k_onTape (b := fun k => fbA X (4 * 1 + k)) hs w1 (hX 1 (by omega)) (by omega) (fun k hk => fb 1 k (by omega) hk) (fun g2 w2 f2 e2 t2 => ⟨rfl, w2, ?_⟩)
    refine k_onTape (b := fun k => fbA X (4 * 2 + k)) hs w2 (hX 2 (by omega)) (by omega) (fun k hk => fb 2 k (by omega) hk) (fun g3 w3 f3 e3 t3 => ⟨rfl, w3, ?_⟩)
    refine k_onTape (b := fun k => fbA X (4 * 3 + k)) hs w3 (hX 3 (by omega)) (by omega) (fun k hk => fb 3 k (by omega) hk) (fun g4 w4 f4 e4 t4 => ⟨rfl, w4, ?_⟩)
    refine k_onTape (b := fun k => fbA X (4 * 4 + k)) hs w4 (hX 4 (by omega)) (by omega) (fun k hk => fb 4 k (by omega) hk) (fun g5 w5 f5 e5 t5 => ⟨rfl, w5, ?_⟩)
    have e : g5.2.2.2 0 1 = h.2.2.2 0 1 + 20 := by omega
    rw [e]
    refine H g5 w5 ((((f1.trans f2).trans f3).trans f4).trans f5) (fun _ => ⟨e, fun j => ?_⟩) (fun q => absurd c q)
    rw [t5 j, t4 j, t3 j, t2 j, t1 j, e4, e3, e2, e1]
    by_cases q5 : h.2.2.2 0 1 + 16 ≤ (j : Int) ∧ (j : Int) < h.2.2.2 0 1 + 20
    · rw [if_pos (by omega), if_pos (by omega)]
      show Int.bmod (fbA X (4 * 4 + (j - (h.2.2.2 0 1 + 4 + 4 + 4 + 4).toNat))) 256 = _
      rw [show 4 * 4 + (j - (h.2.2.2 0 1 + 4 + 4 + 4 + 4).toNat) = j - (h.2.2.2 0 1).toNat by omega]
    · rw [if_neg (by omega)]
      by_cases q4 : h.2.2.2 0 1 + 12 ≤ (j : Int) ∧ (j : Int) < h.2.2.2 0 1 + 16
      · rw [if_pos (by omega), if_pos (by omega)]
        show Int.bmod (fbA X (4 * 3 + (j - (h.2.2.2 0 1 + 4 + 4 + 4).toNat))) 256 = _
        rw [show 4 * 3 + (j - (h.2.2.2 0 1 + 4 + 4 + 4).toNat) = j - (h.2.2.2 0 1).toNat by omega]
      · rw [if_neg (by omega)]
        by_cases q3 : h.2.2.2 0 1 + 8 ≤ (j : Int) ∧ (j : Int) < h.2.2.2 0 1 + 12
        · rw [if_pos (by omega), if_pos (by omega)]
          show Int.bmod (fbA X (4 * 2 + (j - (h.2.2.2 0 1 + 4 + 4).toNat))) 256 = _
          rw [show 4 * 2 + (j - (h.2.2.2 0 1 + 4 + 4).toNat) = j - (h.2.2.2 0 1).toNat by omega]
        · rw [if_neg (by omega)]
          by_cases q2 : h.2.2.2 0 1 + 4 ≤ (j : Int) ∧ (j : Int) < h.2.2.2 0 1 + 8
          · rw [if_pos (by omega), if_pos (by omega)]
            show Int.bmod (fbA X (4 * 1 + (j - (h.2.2.2 0 1 + 4).toNat))) 256 = _
            rw [show 4 * 1 + (j - (h.2.2.2 0 1 + 4).toNat) = j - (h.2.2.2 0 1).toNat by omega]
          · rw [if_neg (by omega)]
            by_cases q1 : h.2.2.2 0 1 ≤ (j : Int) ∧ (j : Int) < h.2.2.2 0 1 + 4
            · rw [if_pos q1, if_pos (by omega)]
              show Int.bmod (fbA X (4 * 0 + (j - (h.2.2.2 0 1).toNat))) 256 = _
              rw [show 4 * 0 + (j - (h.2.2.2 0 1).toNat) = j - (h.2.2.2 0 1).toNat by omega]
            · rw [if_neg q1, if_neg (by omega)]
  · rw [if_neg c] at H
    exact H h hw fr.rfl (fun q => absurd q c) (fun _ => ⟨rfl, rfl⟩)
end FD
