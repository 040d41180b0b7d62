/-! a text: the class -/
section TC
variable {scr : Nat × (Nat → Int)} {d : Nat} {h : am_H} {Q : Option am_V → am_H → Prop} {T : Nat → Int} {N M p q D B : Nat} {e : PE} {ds : DS} {h0 g : am_H} {ser : Int}
theorem c_wf {j k m : Nat} {a1 lo hi : Int} {K : am_H → Prop} (hD : 6 ≤ D) (hs : am_sc scr) (x : stK h0 h T N ser (ds, p)) (hN : N ≤ 900) (hj : 1 ≤ j ∧ j < 37) (ea : a1 = -2 - (j : Int)) (k26 : kyT j ≠ 26) (hk : (k, m) ∈ FMp) (H1 : ∀ z, nmF T N p (kyT j) lo hi = .inr z → ∀ g, stK h0 g T N ser ((up ds.1 m z.1, ds.2), z.2) → K g) (H2 : ∀ e, nmF T N p (kyT j) lo hi = .inl e → ∀ g, stF h0 g T N e → K g) : am_R (am_prog scr) D f_Tokens_want 0 [some (.inr (.inr (((3) : Nat) : Int))), some (.inr (.inr a1))] [] h (fun v g2 => v = none ∧ wf g2 ∧ (am_R (am_prog scr) D f_Tokens_wantNumber 0 [some (.inr (.inr (((3) : Nat) : Int))), some (.inl (lo)), some (.inl (hi)), none] [] g2 (fun v g3 => ∃ r4, v = some (.inl r4) ∧ wf g3 ∧ ((am_isO g3 (g2.2.2.2 2 3) 1) ∧ ((∀ q ∈ wr_l, ¬ (q.1 = ((g2.2.2.2 2 3).toNat) ∧ q.2.1 = k)) ∧ (∀ h7 : am_H, h7 = am_put g3 ((g2.2.2.2 2 3).toNat) k r4 → K h7)))))) := by
  have xx := x
  obtain ⟨x1, x2, x3, x4, x5, x6⟩ := xx
  have pN : p ≤ N := x3.1.1
  have b := FMp_b _ hk
  unfold nmF wN at H1 H2
  refine c_want (M := 900) hD hs x1 x2 x3 hj ea (by omega) (fun q g w f o e5 e2 => ⟨rfl, w, ?_⟩) (fun q g w f o => ⟨rfl, w, ?_⟩)
  · have q' : tkK T N p = kyT j := q
    rw [if_pos q'] at H1 H2
    have gt := tk_gt pN (show tkK T N p ≠ 26 by rw [q']; exact k26)
    have y : stK h0 g T N ser (ds, tkE T N p) := x.tok w f o (by omega) e2
    exact c_field (Q := fun _ k => K k) hD hs y hN hk H1 H2
  · have q' : tkK T N p ≠ kyT j := q
    rw [if_neg q'] at H2
    have b2 : k ≠ 5 ∧ k ≠ 6 := ⟨b.2.2.1, b.2.2.2.1⟩
    exact c_field_f (Q := fun _ k => K k) hD hs (x.fl w f o (by simp only; omega)) b2 (H2 _ rfl)
theorem c_wf_f {k : Nat} {a1 lo hi : Int} {K : am_H → Prop} (hD : 6 ≤ D) (hs : am_sc scr) (x : stF h0 h T N e) (hk : k ≠ 5 ∧ k ≠ 6) (H : ∀ g, stF h0 g T N e → K g) : am_R (am_prog scr) D f_Tokens_want 0 [some (.inr (.inr (((3) : Nat) : Int))), some (.inr (.inr a1))] [] h (fun v g2 => v = none ∧ wf g2 ∧ (am_R (am_prog scr) D f_Tokens_wantNumber 0 [some (.inr (.inr (((3) : Nat) : Int))), some (.inl (lo)), some (.inl (hi)), none] [] g2 (fun v g3 => ∃ r4, v = some (.inl r4) ∧ wf g3 ∧ ((am_isO g3 (g2.2.2.2 2 3) 1) ∧ ((∀ q ∈ wr_l, ¬ (q.1 = ((g2.2.2.2 2 3).toNat) ∧ q.2.1 = k)) ∧ (∀ h7 : am_H, h7 = am_put g3 ((g2.2.2.2 2 3).toNat) k r4 → K h7)))))) :=
  c_want_f hD hs x.1 x.2.2.1 ⟨rfl, x.1, c_field_f (Q := fun _ k => K k) hD hs x hk H⟩
theorem c_head (hD : 7 ≤ D) (hs : am_sc scr) (x : stK h0 h T N ser (ds0, 0)) (hN : N ≤ 900) (H : ∀ g, stR h0 g T N ser (headF T N) → Q none g) : am_R (am_prog scr) D f_Reader_readHead 0 [some (.inr (.inr (((2) : Nat) : Int)))] [] h Q := by
  obtain ⟨D, rfl⟩ : ∃ d, D = d + 1 := ⟨D - 1, by omega⟩
  have xx := x
  obtain ⟨x1, x2, x3, x4, x5, x6⟩ := xx
  have h133 := x4.1
  rw [headF_e] at H
  have fD : ∀ (k : am_H) (ee : PE), stF h0 k T N ee → (∀ g, stF h0 g T N ee → Q none g) → am_R (am_prog scr) D f_Tokens_want 0 [some (.inr (.inr (((3) : Nat) : Int))), some (.inr (.inr (-7)))] [] k (fun v g20 => v = none ∧ wf g20 ∧ ((am_isO g20 (g20.2.2.2 2 3) 1) ∧ ((∀ q ∈ wr_l, ¬ (q.1 = ((g20.2.2.2 2 3).toNat) ∧ q.2.1 = 11)) ∧ (∀ h23 : am_H, h23 = am_put g20 ((g20.2.2.2 2 3).toNat) 11 1 → (Q none h23))))) := by
    intro k ee z K
    refine c_want_f (by omega) hs z.1 z.2.2.1 ⟨rfl, z.1, z.2.2.2.iso, ?_⟩
    rw [z.2.2.2.hd]
    refine ⟨hi_wr h133 11, fun h23 q23 => ?_⟩
    rw [q23]
    exact K _ (z.hi (Nat.le_refl _) (by omega))
  refine w_Reader_readHead_0 hs x1 (c_want (j := 1) (M := 900) (by omega) hs x1 x2 x3 (by omega) (by omega) (by omega) (fun q g w f o e5 e2 => ⟨rfl, w, ?_⟩) (fun q g w f o => ⟨rfl, w, ?_⟩))
  · have q0 : tkK T N 0 = 0 := q
    have hq : wN T N 0 0 = .inr (tkE T N 0) := by unfold wN; rw [if_pos q0]
    rw [hq] at H
    simp only [eB] at H
    have y : stK h0 g T N ser (ds0, tkE T N 0) := x.tok w f o (by omega) e2
    refine c_wf (j := 2) (k := 1) (m := 1) (by omega) hs y hN (by omega) (by omega) (by decide) (by decide) (fun z hz g y => ?_) (fun ee he g y => ?_)
    · have hz : nmF T N (tkE T N 0) 1 1 6 = .inr z := hz
      rw [hz] at H
      simp only at H
      refine c_wf (j := 3) (k := 2) (m := 2) (by omega) hs y hN (by omega) (by omega) (by decide) (by decide) (fun z2 hz2 g y => ?_) (fun ee he g y => ?_)
      · have hz2 : nmF T N z.2 2 1 6 = .inr z2 := hz2
        rw [hz2] at H
        simp only at H
        refine c_wf (j := 4) (k := 3) (m := 3) (by omega) hs y hN (by omega) (by omega) (by decide) (by decide) (fun z3 hz3 g y => ?_) (fun ee he g y => ?_)
        · have hz3 : nmF T N z2.2 3 1 4 = .inr z3 := hz3
          rw [hz3] at H
          simp only at H
          have y0 : stK h0 g T N ser ((up (up (up row0 1 z.1) 2 z2.1) 3 z3.1, ds0.2), z3.2) := y
          obtain ⟨y1, y2, y3, y4, y5, y6⟩ := y
          have zN : z3.2 ≤ N := y3.1.1
          unfold closF wN at H
          refine c_want (j := 5) (M := 900) (by omega) hs y1 y2 y3 (by omega) (by omega) (by omega) (fun q g w f o e5 e2 => ⟨rfl, w, ?_⟩) (fun q g w f o => ⟨rfl, w, ?_⟩)
          · have q30 : tkK T N z3.2 = 30 := q
            simp only at H
            rw [if_pos q30] at H
            have gt := tk_gt zN (show tkK T N z3.2 ≠ 26 by omega)
            have u : stK h0 g T N ser ((up (up (up row0 1 z.1) 2 z2.1) 3 z3.1, ds0.2), tkE T N z3.2) := y0.tok w f o (by omega) e2
            refine ⟨u.2.2.2.1.iso, ?_⟩
            rw [u.2.2.2.1.hd]
            refine ⟨hi_wr h133 11, fun h23 q23 => ?_⟩
            rw [q23]
            exact H _ (u.fld (k := 11) (m := 0) (v := 1) (by decide))
          · have q30 : tkK T N z3.2 ≠ 30 := q
            simp only at H
            rw [if_neg q30] at H
            have u : stF h0 g T N (eF T N z3.2 2) := y0.fl w f o (by simp only; omega)
            refine ⟨u.2.2.2.iso, ?_⟩
            rw [u.2.2.2.hd]
            refine ⟨hi_wr h133 11, fun h23 q23 => ?_⟩
            rw [q23]
            exact H _ (u.hi (Nat.le_refl _) (by omega))
        · have he : nmF T N z2.2 3 1 4 = .inl ee := he
          rw [he] at H
          exact fD g ee y H
      · have he : nmF T N z.2 2 1 6 = .inl ee := he
        rw [he] at H
        exact c_wf_f (by omega) hs y (by omega) (fun g y => fD g ee y H)
    · have he : nmF T N (tkE T N 0) 1 1 6 = .inl ee := he
      rw [he] at H
      exact c_wf_f (by omega) hs y (by omega) (fun g y => c_wf_f (by omega) hs y (by omega) (fun g y => fD g ee y H))
  · have q0 : tkK T N 0 ≠ 0 := q
    have hq : wN T N 0 0 = .inl (eF T N 0 2) := by unfold wN; rw [if_neg q0]
    rw [hq] at H
    have y : stF h0 g T N (eF T N 0 2) := x.fl w f o (by simp only; omega)
    exact c_wf_f (by omega) hs y (by omega) (fun g y => c_wf_f (by omega) hs y (by omega) (fun g y => c_wf_f (by omega) hs y (by omega) (fun g y => fD g _ y H)))
end TC
