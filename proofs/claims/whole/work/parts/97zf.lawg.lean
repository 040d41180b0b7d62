/-! the law: from its start to its end -/
def W0 (H : am_H) : Wd := (0, fun _ => H.2.2.2 110, fun _ _ _ => 0, fun _ => 21)
theorem gI_start {H : am_H} (w : wf H) (k1 : H.1 = 133) (k21 : H.2.2.1 21 = (11, 14)) (cm : ∀ sl, sl < 6480 → H.2.2.2 11 sl = 0 ∧ H.2.2.2 13 sl = 0)
    (hv : (H.2.2.2 21 0 = 0 ∧ H.2.2.2 21 1 = 1 ∧ H.2.2.2 21 2 = 1 ∧ H.2.2.2 21 3 = 1 ∧ H.2.2.2 21 4 = 0 ∧ H.2.2.2 21 9 = 0 ∧ H.2.2.2 21 11 = 0 ∧ H.2.2.2 21 12 = -1 ∧ H.2.2.2 21 13 = -1) ∧ (H.2.2.2 24 0 = 21 ∧ H.2.2.2 24 3 = 0 ∧ H.2.2.2 24 4 = -1 ∧ H.2.2.2 24 5 = 0 ∧ H.2.2.2 24 6 = 0 ∧ H.2.2.2 24 7 = 0 ∧ H.2.2.2 24 8 = 1) ∧ (H.2.2.2 63 1 = 0 ∧ H.2.2.2 63 2 = 0 ∧ H.2.2.2 30 4 = -1 ∧ H.2.2.2 57 5 = -1 ∧ H.2.2.2 9 7 = 0 ∧ H.2.2.2 43 1 = 44 ∧ H.2.2.2 43 2 = 45) ∧ (H.2.2.2 0 1 = 0 ∧ H.2.2.2 0 2 = 0 ∧ H.2.2.2 0 3 = -1 ∧ H.2.2.2 0 4 = 0 ∧ H.2.2.2 2 2 = 0 ∧ H.2.2.2 109 5 = 0 ∧ H.2.2.2 109 13 = 0 ∧ H.2.2.2 109 14 = -1))
    (hw : (∀ s, s < 6 → H.2.2.2 25 s = 0 ∧ H.2.2.2 26 s = 0) ∧ (∀ i, i < 2 → H.2.2.2 19 i = 0 ∧ H.2.2.2 111 i = 0) ∧ (∀ t, t < 4 → H.2.2.2 (95 + 2 * t) 0 = 1 ∧ H.2.2.2 (95 + 2 * t) 2 = 0 ∧ H.2.2.2 130 t = -1 ∧ H.2.2.2 131 t = 0) ∧ (∀ k, k < 180 → H.2.2.2 16 k = 0) ∧ (∀ j, j < 212 → H.2.2.2 110 j = if j = 1 ∨ j = 2 ∨ j = 3 ∨ j = 15 then 1 else 0)) : gI H (W0 H) 0 0 (H.2.2.2 110) := by
  obtain ⟨⟨v0, v1, v2, v3, v4, v9, v11, v12, v13⟩, ⟨p0, p3, p4, p5, p6, p7, p8⟩, ⟨r1, r2, r3, r4, r5, r6, r7⟩, ⟨s1, s2, s3, s4, s5, s6, s7, s8⟩⟩ := hv
  obtain ⟨w1, w2, w3, w4, row⟩ := hw
  have o : ∀ j, j = 1 ∨ j = 2 ∨ j = 3 ∨ j = 15 → H.2.2.2 110 j = 1 := fun j hj => by rw [row j (by omega), if_pos hj]
  have z : ∀ j, j < 212 → ¬ (j = 1 ∨ j = 2 ∨ j = 3 ∨ j = 15) → H.2.2.2 110 j = 0 := fun j hj hn => by rw [row j hj, if_neg hn]
  have a0 := z 0 (by omega) (by omega)
  have a1 := o 1 (by omega)
  have a2 := o 2 (by omega)
  have a3 := o 3 (by omega)
  have a4 := z 4 (by omega) (by omega)
  have a5 := z 5 (by omega) (by omega)
  have a6 := z 6 (by omega) (by omega)
  have a7 := z 7 (by omega) (by omega)
  have a12 := z 12 (by omega) (by omega)
  have a13 := z 13 (by omega) (by omega)
  have a14 := z 14 (by omega) (by omega)
  have a15 := o 15 (by omega)
  have a28 := z 28 (by omega) (by omega)
  have a29 := z 29 (by omega) (by omega)
  have a30 := z 30 (by omega) (by omega)
  have st : stA (H.2.2.2 110) = 1 := by unfold stA; rw [a12, a13, a14, a15]; decide
  refine ⟨w, ⟨by show 0 ≤ 600; omega, ⟨⟨?_, ?_⟩, fun s hs => ?_⟩, fun sl hsl => ⟨Or.inl (cm sl hsl).1, Or.inl (cm sl hsl).2⟩⟩, ⟨Nat.le_refl _, fun j hj => rfl, ⟨p0, fun s hs => ⟨?_, ?_⟩, ?_, ?_, ?_, ?_, ?_⟩, ?_⟩, rfl, ?_, ⟨by rw [r1]; omega, by rw [r2, a30], fun i hi => by rw [a30] at hi; omega⟩, Or.inl r3, Or.inl r4, ⟨by rw [r5]; omega, fun j hj => by rw [w4 j hj, r5]; omega⟩, Or.inl ⟨r6, r7⟩, fun i hi => ⟨by rw [(w2 i hi).1, (w2 i hi).2], Or.inl (w2 i hi).1⟩, fun t ht => ?_, ?_, ?_⟩
  · show H.2.2.2 110 6 ≠ 1; omega
  · show H.2.2.2 110 7 ≠ 1; omega
  · have hs0 : s ≤ 0 := hs
    obtain rfl : s = 0 := by omega
    refine ⟨⟨Or.inr rfl, by show (H.2.2.1 21).1 = 11; rw [k21], ?_, ?_, ?_, ?_, ?_, ?_, ?_, ?_⟩, v0, by show 21 < H.1; omega⟩
    · show H.2.2.2 21 1 = H.2.2.2 110 1; omega
    · show H.2.2.2 21 2 = H.2.2.2 110 2; omega
    · show H.2.2.2 21 3 = H.2.2.2 110 3; omega
    · show H.2.2.2 21 4 = H.2.2.2 110 4; omega
    · show H.2.2.2 21 9 = H.2.2.2 110 5; omega
    · show H.2.2.2 21 11 = H.2.2.2 110 0; omega
    · exact Or.inl ⟨by show H.2.2.2 110 6 ≠ 1; omega, v12⟩
    · exact Or.inl ⟨by show H.2.2.2 110 7 ≠ 1; omega, v13⟩
  · show H.2.2.2 25 s = _; rw [(w1 s hs).1, z (16 + s) (by omega) (by omega)]
  · show H.2.2.2 26 s = _; rw [(w1 s hs).2, z (22 + s) (by omega) (by omega)]
  · rw [p3, a28]
  · rw [p4, if_pos a4]
  · rw [p5, st]; decide
  · rw [p6, st]; decide
  · rw [p8, st]; decide
  · rw [p7, a29]
  · refine ⟨⟨⟨by omega, by omega, by omega, by omega, fun s hs => ?_, fun h => by omega, fun h => by omega⟩, ⟨by omega, by omega, fun s hs hl => by omega, fun s t hs ht ls lt => by omega⟩, ⟨by omega, by omega, by omega, by omega, fun _ => by omega, fun _ => a15⟩, by omega, by omega⟩, by omega, fun i hi => by omega⟩
    rw [z (16 + s) (by omega) (by omega), z (22 + s) (by omega) (by omega)]; omega
  · obtain ⟨t0, t2, t3, t4⟩ := w3 t ht
    rw [t0, t2, t3, t4]
    exact ⟨by decide, by omega, by omega, fun h => absurd rfl h⟩
  · unfold tpR
    rw [s1, s2, s3, s5, s6, s7, s8]
    exact ⟨by omega, rfl, fun k hk => by omega, ⟨rfl, rfl⟩, by omega⟩
  · refine ⟨s4, fun s _ => ?_⟩
    show H.2.2.2 21 12 < (H.1 : Int) ∧ H.2.2.2 21 13 < (H.1 : Int)
    omega
theorem ini_G : gI iniH0 (W0 iniH0) 0 0 (iniH0.2.2.2 110) := gI_start ⟨Nat.le_of_eq ini_k.1.symm, ini_k.2.2, ini_r⟩ ini_k.1 ((ini_k.2.2 21 (by omega)).trans (by decide +kernel)) (fun sl hsl => by rw [ini_f 11 (by omega), ini_f 13 (by omega)]; exact ini_c sl hsl) ini_v ini_w
theorem ini_Z : szI iniH0 0 (W0 iniH0) := ⟨Nat.le_of_eq ini_k.1, Nat.le_of_eq ini_k.2.1, Nat.le_refl _⟩
section LL
variable {scr : Nat × (Nat → Int)} {d : Nat}
theorem law_loop (hs : am_sc scr) : ∀ (m n : Nat) (h : am_H) (W : Wd) (ser : Nat) (a : Nat → Int), n + m = 513 → gI h W ser (1000 * (n : Int)) a → szI h n W → am_R (am_prog scr) (d + 72) f_L_law 18 [some (.inr (.inr (-1000))), some (.inr (.inr (((0) : Nat) : Int))), some (.inr (.inr ((109 : Nat) : Int))), some (.inl ((6 * n : Nat) : Int))] [] h (fun v t => v = some (.inl 1) ∧ t.1 ≤ 600000 ∧ t.2.1 ≤ 7302250) := by
  have s1 := hs.1
  intro m
  induction m with
  | zero =>
    intro n h W ser a hn G Z
    refine w_L_law_18 hs G.1 ⟨fun _ => ⟨rfl, ?_⟩, fun c => ?_⟩
    · unfold szI at Z; omega
    · rw [am_w_id (by omega) (by omega)] at c; omega
  | succ m ih =>
    intro n h W ser a hn G Z
    refine w_L_law_18 hs G.1 ⟨fun _ => ⟨rfl, by unfold szI at Z; omega⟩, fun c => ⟨?_, ?_⟩⟩
    · rw [am_w_id (by omega) (by omega)] at c; omega
    · rw [am_w_id (by omega) (by omega)] at c
      have hx : 0 ≤ ((6 * n : Nat) : Int) ∧ ((6 * n : Nat) : Int) + 6 ≤ (scr.1 : Int) := by omega
      have hB : 0 ≤ 1000 * (n : Int) ∧ 1000 * (n : Int) < 600000 := by omega
      have K : KT scr d (fun v t => v = some (.inl 1) ∧ t.1 ≤ 600000 ∧ t.2.1 ≤ 7302250) (1000 * (n : Int)) n ((6 * n : Nat) : Int) := fun g V sr b G2 Z2 => by
        have := ih (n + 1) g V sr b (by omega) (by rw [show 1000 * ((n + 1 : Nat) : Int) = 1000 * (n : Int) + 1000 by omega]; exact G2) Z2
        rw [show ((6 * (n + 1) : Nat) : Int) = ((6 * n : Nat) : Int) + 6 by omega] at this
        exact this
      clear ih
      refine ⟨fun _ => lc_0 hs G Z hB hx K, fun _ => lc_1 hs G Z hB (by omega) hx K, fun _ => lc_2 hs G Z hB hx K, fun _ => lc_3 hs G Z hB hx K, fun _ => lc_4 hs G Z hB hx K, fun _ => lc_5 hs G Z hB hx K, fun _ => lc_6 hs G Z hB hx K, fun _ => lc_7 hs G Z hB hx K, fun _ => lc_8 hs G Z hB hx K, fun _ => lc_9 hs G Z hB hx K, fun _ => lc_10 hs G Z hB hx K, fun _ => lc_11 hs G Z hB hx K, fun _ => lc_12 hs G Z hB hx K, fun _ => lc_13 hs G Z hB hx K, fun _ => lc_14 hs G Z hB hx K, fun _ => lc_15 hs G Z hB hx K, fun _ => lc_16 hs G Z hB hx K, fun _ => lc_17 hs G Z hB hx K, fun _ => lc_18 hs G Z hB hx K, fun _ => lc_19 hs G Z hB hx K, fun _ => lc_20 hs G Z hB hx K, fun _ => lc_21 hs G Z hB hx K, fun _ => lc_22 hs G Z hB hx K, fun _ => lc_23 hs G Z hB hx K, fun _ => lc_24 hs G Z hB hx K, fun _ => lc_25 hs G Z hB hx K, fun _ => lc_26 hs G Z hB hx K, fun _ => lc_27 hs G Z hB hx K, fun _ => lc_28 hs G Z hB hx K, fun _ => lc_29 hs G Z hB hx K, fun _ => lc_30 hs G Z hB hx K, fun _ => lc_31 hs G Z hB hx K, fun _ => lc_32 hs G Z hB hx K, fun _ => lc_33 hs G Z hB hx K, fun _ => lc_34 hs G Z hB hx K, fun _ => lc_35 hs G Z hB hx K, fun _ => lc_36 hs G Z hB hx K, fun _ => lc_37 hs G Z hB hx K, fun _ => lc_38 hs G Z hB hx K, fun _ => lc_39 hs G Z hB hx K, fun _ => lc_40 hs G Z hB hx K, fun _ y hy => ?_⟩
      rw [am_w_id (by omega) (by omega)] at hy
      rw [hy]
      exact K h W ser a G.up (Z.one (L := []) (F := []) fr.rfl)
end LL
