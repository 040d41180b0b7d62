/-! a text's lines: the class, each kind of line -/
def FMp : List (Nat × Nat) := [(1, 1), (2, 2), (3, 3), (4, 4), (7, 12), (8, 13), (9, 5), (10, 28), (11, 0)]
theorem FMp_b : ∀ z ∈ FMp, (∀ w ∈ FMp, (z.1 = w.1 ↔ z.2 = w.2)) ∧ z.1 ≠ 0 ∧ z.1 ≠ 5 ∧ z.1 ≠ 6 ∧ z.1 ≠ 12 ∧ z.1 ≠ 13 ∧ (z.2 < 6 ∨ z.2 = 12 ∨ z.2 = 13 ∨ z.2 = 28) := by decide
section LD
variable {scr : Nat × (Nat → Int)} {d : Nat} {h : am_H} {Q : Option am_V → am_H → Prop} {T : Nat → Int} {N M p q D B : Nat} {e : PE} {ds : DS} {h0 g : am_H} {ser : Int}
theorem lwK.eq {hd k : Nat} {t : Int} {l : Nat × (Nat → Int) × ((Nat → Int) → Int)} (w : lwK h hd k t l) (hg : h.1 ≤ g.1) (hk : ∀ c, hd + 3 ≤ c → c < h.1 → g.2.2.1 c = h.2.2.1 c) (e1 : g.2.2.2 hd k = h.2.2.2 hd k) (hc : ∀ c, hd + 3 ≤ c → c < h.1 → g.2.2.2 c = h.2.2.2 c) : lwK g hd k t l := by
  rcases w with ⟨w1, w2⟩ | ⟨w1, c, w2, w3, w4, w5, w6⟩
  · exact Or.inl ⟨w1, by rw [e1]; exact w2⟩
  · exact Or.inr ⟨w1, c, by rw [e1]; exact w2, w3, by omega, by rw [hk c w3 w4]; exact w5, fun j hj => by rw [hc c w3 w4]; exact w6 j hj⟩
theorem drD.fld {hd k m : Nat} {v : Int} (x : drD h hd ser ds) (hk : (k, m) ∈ FMp) : drD (am_put h hd k v) hd ser (up ds.1 m v, ds.2) := by
  obtain ⟨b1, b2, b3, b4, b5, b6, b7⟩ := FMp_b _ hk
  simp only at b1 b2 b3 b4 b5 b6 b7
  have f : ∀ k' m' : Nat, (k', m') ∈ FMp → h.2.2.2 hd k' = ds.1 m' → (am_put h hd k v).2.2.2 hd k' = up ds.1 m v m' := by
    intro k' m' hm ee
    have := b1 _ hm
    simp only at this
    by_cases c : k' = k
    · have c2 : m' = m := (this.mp c.symm).symm
      rw [c, c2, put_eq, up_eq]
    · rw [put_ne (fun z => c z.2), up_ne (fun z => c (this.mpr z.symm).symm)]; exact ee
  obtain ⟨x1, ⟨x2, x3, x4, x5⟩, ⟨x6, x7, x8, x9, x10⟩, x11, x12, x13⟩ := x
  have lw : ∀ i t l, i = 12 ∨ i = 13 → lwK h hd i t l → lwK (am_put h hd k v) hd i t l := fun i t l hi w => w.eq (Nat.le_refl _) (fun _ _ _ => rfl) (put_ne (by omega)) (fun c hc _ => put_c (by omega))
  refine ⟨by rw [put_ne (by omega)]; exact x1, ⟨f 1 1 (by decide) x2, f 2 2 (by decide) x3, f 3 3 (by decide) x4, f 4 4 (by decide) x5⟩, ⟨f 7 12 (by decide) x6, f 8 13 (by decide) x7, f 9 5 (by decide) x8, f 10 28 (by decide) x9, f 11 0 (by decide) x10⟩, fun s hs => ?_, ?_, ?_⟩
  · show (am_put h hd k v).2.2.2 (hd + 1) s = up ds.1 m v (16 + s) ∧ (am_put h hd k v).2.2.2 (hd + 2) s = up ds.1 m v (22 + s)
    rw [put_ne (by omega), put_ne (by omega), up_ne (by omega), up_ne (by omega)]; exact x11 s hs
  · show lwK _ hd 12 (up ds.1 m v 6) (ds.2 0)
    rw [up_ne (by omega)]; exact lw 12 _ _ (by omega) x12
  · show lwK _ hd 13 (up ds.1 m v 7) (ds.2 1)
    rw [up_ne (by omega)]; exact lw 13 _ _ (by omega) x13
theorem stK.tok {g : am_H} (x : stK h0 h T N ser (ds, p)) (w : wf g) (f : frK h g) (o : okK g T N q) (hp : p ≤ q) (e2 : g.2.2.2 2 2 = h.2.2.2 2 2) : stK h0 g T N ser (ds, q) := by
  obtain ⟨x1, x2, x3, x4, x5, x6⟩ := x
  exact ⟨w, x2.fr2 f, o, (x4.fr f).mono hp, x5.fr f x4.1 x4.2.2.2.2.2.2.2.2.2.1, by rw [e2]; exact x6⟩
theorem stK.fl {g : am_H} {z : DS × Nat} (x : stK h0 h T N ser z) (w : wf g) (f : frK h g) (l : flK g T N 900 e) (hz : z.2 ≤ 900) : stF h0 g T N e := by
  obtain ⟨x1, x2, x3, x4, x5, x6⟩ := x
  exact ⟨w, x2.fr2 f, l, (x4.fr f).mono (by omega)⟩
theorem stK.fld {k m : Nat} {v : Int} (x : stK h0 h T N ser (ds, p)) (hk : (k, m) ∈ FMp) : stK h0 (am_put h h0.1 k v) T N ser ((up ds.1 m v, ds.2), p) := by
  obtain ⟨x1, x2, x3, x4, x5, x6⟩ := x
  have h133 := x4.1
  have b := FMp_b _ hk
  exact ⟨x1.hi h133, x2.hi h133, x3.hi h133, x4.put (Nat.le_refl _) (by omega), x5.fld hk, by rw [put_ne (by omega)]; exact x6⟩
/-- behind a line's body -/
theorem c_243 {r : PE ⊕ (DS × Nat)} (hD : 7 ≤ D) (hs : am_sc scr) (x : stR h0 h T N ser r) (hN : N ≤ 900) (hr : ∀ z, r = .inr z → 0 ≤ z.1.1 0 ∧ z.1.1 0 ≤ 1000) (H : ∀ g, stR h0 g T N ser (eB r (closF T N)) → Q none g) : am_R (am_prog scr) D f_Reader_readLine 243 [some (.inr (.inr (((2) : Nat) : Int)))] [] h Q := by
  obtain ⟨D, rfl⟩ : ∃ d, D = d + 1 := ⟨D - 1, by omega⟩
  cases r with
  | inl ee =>
    have x : stF h0 h T N ee := x
    have y : drS h0 h 1900 := x.2.2.2
    have h133 := y.1
    refine w_Reader_readLine_243 hs x.1 (c_want_f (by omega) hs x.1 x.2.2.1 ⟨rfl, x.1, y.iso, y.iso, ?_⟩)
    rw [y.hd]
    refine ⟨hi_wr h133 11, fun h5 q5 => ?_⟩
    rw [q5]
    exact H _ (x.hi (Nat.le_refl _) (by omega))
  | inr z =>
    have x0 : stK h0 h T N ser z := x
    obtain ⟨x1, x2, x3, x4, x5, x6⟩ := x0
    have zz := hr z rfl
    have pN := x3.1.1
    have fin : ∀ (k : am_H) (B : Nat), drS h0 k B → (∀ h5, h5 = am_put k h0.1 11 (am_w (k.2.2.2 h0.1 11 + 1)) → Q none h5) → (am_isO k (k.2.2.2 2 3) 1 ∧ ((am_isO k (k.2.2.2 2 3) 1) ∧ ((∀ q ∈ wr_l, ¬ (q.1 = ((k.2.2.2 2 3).toNat) ∧ q.2.1 = 11)) ∧ (∀ h5 : am_H, h5 = am_put k ((k.2.2.2 2 3).toNat) 11 (am_w ((k.2.2.2 ((k.2.2.2 2 3).toNat) 11) + 1)) → (Q none h5))))) := by
      intro k B y K
      refine ⟨y.iso, y.iso, ?_⟩
      rw [y.hd]
      exact ⟨hi_wr y.1 11, K⟩
    refine w_Reader_readLine_243 hs x1 (c_want (j := 5) (M := 900) (by omega) hs x1 x2 x3 (by omega) (by omega) (by omega) (fun q g wg fg og e5 e2 => ⟨rfl, wg, ?_⟩) (fun q g wg fg og => ⟨rfl, wg, ?_⟩))
    · have q30 : tkK T N z.2 = 30 := q
      have gt := tk_gt pN (show tkK T N z.2 ≠ 26 by omega)
      have y : stK h0 g T N ser (z.1, tkE T N z.2) := stK.tok (ds := z.1) (p := z.2) x wg fg og (by omega) e2
      refine fin g _ y.2.2.2.1 (fun h5 q5 => ?_)
      have e11 : g.2.2.2 h0.1 11 = z.1.1 0 := y.2.2.2.2.1.2.2.1.2.2.2.2
      rw [e11, am_w_id (by omega) (by omega)] at q5
      rw [q5]
      refine H _ ?_
      simp only [eB, closF, wN]
      rw [if_pos q30]
      exact y.fld (by decide)
    · have q30 : tkK T N z.2 ≠ 30 := q
      have y := stK.fl x wg fg og (by omega)
      refine fin g _ y.2.2.2 (fun h5 q5 => ?_)
      rw [q5]
      refine H _ ?_
      simp only [eB, closF, wN]
      rw [if_neg q30]
      exact y.hi (Nat.le_refl _) (by omega)
/-- a number that goes into a field -/
theorem c_field {k m : Nat} {lo hi : Int} (hD : 6 ≤ D) (hs : am_sc scr) (x : stK h0 h T N ser (ds, p)) (hN : N ≤ 900) (hk : (k, m) ∈ FMp) (H1 : ∀ z, nN T N p lo hi = .inr z → ∀ g, stK h0 g T N ser ((up ds.1 m z.1, ds.2), z.2) → Q none g) (H2 : ∀ e, nN T N p lo hi = .inl e → ∀ g, stF h0 g T N e → Q none g) : am_R (am_prog scr) D f_Tokens_wantNumber 0 [some (.inr (.inr (((3) : Nat) : Int))), some (.inl (lo)), some (.inl (hi)), none] [] h (fun v g37 => ∃ r38, v = some (.inl r38) ∧ wf g37 ∧ ((am_isO g37 (h.2.2.2 2 3) 1) ∧ ((∀ q ∈ wr_l, ¬ (q.1 = ((h.2.2.2 2 3).toNat) ∧ q.2.1 = k)) ∧ (∀ h41 : am_H, h41 = am_put g37 ((h.2.2.2 2 3).toNat) k r38 → Q none h41)))) := by
  have x0 := x
  obtain ⟨x1, x2, x3, x4, x5, x6⟩ := x0
  have pN := x3.1.1
  have b := FMp_b _ hk
  have e3 : ∀ g, frK h g → g.2.2.2 2 3 = h.2.2.2 2 3 := fun g f => f.f 2 3 (by decide) (by decide)
  have x3' : okK h T N p := x3
  have p9 : p ≤ N := pN
  refine c_wnum (M := 900) hD hs x1 x2 x3' (by omega) (fun z hz g w f o e2 => ⟨_, rfl, w, ?_⟩) (fun e he g w f o => ⟨_, rfl, w, ?_⟩)
  · obtain ⟨k1, l1, v1, q1⟩ := nN_inr hz
    have gt := tk_gt p9 (show tkK T N p ≠ 26 by omega)
    have y : stK h0 g T N ser (ds, z.2) := stK.tok x w f o (by omega) e2
    have iso := y.2.2.2.1.iso
    rw [e3 g f] at iso
    refine ⟨iso, ?_⟩
    rw [x4.hd]
    refine ⟨hi_wr x4.1 k, fun h41 q41 => ?_⟩
    rw [q41]
    exact H1 z hz _ (y.fld hk)
  · have y := stK.fl x w f o (by simp only; omega)
    have iso := y.2.2.2.iso
    rw [e3 g f] at iso
    refine ⟨iso, ?_⟩
    rw [x4.hd]
    refine ⟨hi_wr x4.1 k, fun h41 q41 => ?_⟩
    rw [q41]
    exact H2 e he _ (y.hi (Nat.le_refl _) (by simp only at b; omega))
theorem c_field_f {k : Nat} {lo hi : Int} (hD : 6 ≤ D) (hs : am_sc scr) (x : stF h0 h T N e) (hk : k ≠ 5 ∧ k ≠ 6) (H : ∀ g, stF h0 g T N e → Q none g) : am_R (am_prog scr) D f_Tokens_wantNumber 0 [some (.inr (.inr (((3) : Nat) : Int))), some (.inl (lo)), some (.inl (hi)), none] [] h (fun v g37 => ∃ r38, v = some (.inl r38) ∧ wf g37 ∧ ((am_isO g37 (h.2.2.2 2 3) 1) ∧ ((∀ q ∈ wr_l, ¬ (q.1 = ((h.2.2.2 2 3).toNat) ∧ q.2.1 = k)) ∧ (∀ h41 : am_H, h41 = am_put g37 ((h.2.2.2 2 3).toNat) k r38 → Q none h41)))) := by
  refine c_wnum_f hD hs x.1 x.2.2.1 ⟨_, rfl, x.1, x.2.2.2.iso, ?_⟩
  rw [x.2.2.2.hd]
  refine ⟨hi_wr x.2.2.2.1 k, fun h41 q41 => ?_⟩
  rw [q41]
  exact H _ (x.hi (Nat.le_refl _) (by omega))
end LD
