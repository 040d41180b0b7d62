/-! a text's lines: the class -/
section LC
variable {scr : Nat × (Nat → Int)} {d : Nat} {h : am_H} {Q : Option am_V → am_H → Prop} {T : Nat → Int} {N M p D B : Nat} {e : PE} {ds : DS} {h0 g : am_H}
theorem drS.iso (x : drS h0 h B) : am_isO h (h.2.2.2 2 3) 1 := by
  rw [x.2.2.2.1]
  exact ⟨by omega, by rw [Int.toNat_natCast, x.2.2.2.2.1]⟩
theorem drS.hd (x : drS h0 h B) : (h.2.2.2 2 3).toNat = h0.1 := by rw [x.2.2.2.1, Int.toNat_natCast]
theorem hi_wr {c : Nat} (hc : 133 ≤ c) : ∀ k, ∀ q ∈ wr_l, ¬ (q.1 = c ∧ q.2.1 = k) := by
  intro k q hq z
  have : ∀ q ∈ wr_l, q.1 < 133 := by decide +kernel
  have := this q hq
  omega
theorem hi_wo {c : Nat} (hc : 133 ≤ c) : c ∉ wr_o := by
  intro z
  have : ∀ c ∈ wr_o, c < 133 := by decide +kernel
  have := this c z
  omega
theorem drS.mono {B2 : Nat} (x : drS h0 h B) (hb : B ≤ B2) : drS h0 h B2 := by
  obtain ⟨x1, x2, x3, x4, x5, x6, x7, x8, x9, x10, x11, x12⟩ := x
  exact ⟨x1, x2, x3, x4, x5, x6, x7, x8, x9, x10, by omega, by omega⟩
/-- a draft's own cells may change -/
theorem drS.put {c k : Nat} {v : Int} (x : drS h0 h B) (hc : h0.1 ≤ c) (hk : ¬ (c = h0.1 ∧ (k = 5 ∨ k = 6))) : drS h0 (am_put h c k v) B := by
  obtain ⟨x1, x2, x3, x4, x5, x6, x7, x8, x9, x10, x11, x12⟩ := x
  exact ⟨x1, x2, fun c2 k2 h1 h2 h3 => by rw [put_ne (by omega)]; exact x3 c2 k2 h1 h2 h3, by rw [put_ne (by omega)]; exact x4, x5, x6, x7, by rw [put_ne (by omega)]; exact x8, by rw [put_ne (by omega)]; exact x9, x10, x11, x12⟩
theorem okK.hi {c k : Nat} {v : Int} (o : okK h T N p) (hc : 133 ≤ c) : okK (am_put h c k v) T N p := by
  unfold okK cuC at *
  rw [put_c (show 3 ≠ c by omega)]; exact o
theorem flK.hi {c k : Nat} {v : Int} (o : flK h T N M e) (hc : 133 ≤ c) : flK (am_put h c k v) T N M e := by
  unfold flK cuC at *
  rw [put_c (show 3 ≠ c by omega), put_c (show 2 ≠ c by omega)]; exact o
theorem teC.hi {c k : Nat} {v : Int} (t : teC h T N) (hc : 133 ≤ c) : teC (am_put h c k v) T N := by
  unfold teC at *
  rw [put_c (show 3 ≠ c by omega), put_c (show 1 ≠ c by omega)]; exact t
theorem wf.hi {c k : Nat} {v : Int} (w : wf h) (hc : 133 ≤ c) : wf (am_put h c k v) := w.put (hi_wr hc k)
/-- the draft's state while lines are read -/
def stK (h0 h : am_H) (T : Nat → Int) (N : Nat) (ser : Int) (r : DS × Nat) : Prop := wf h ∧ teC h T N ∧ okK h T N r.2 ∧ drS h0 h r.2 ∧ drD h h0.1 ser r.1 ∧ (0 ≤ h.2.2.2 2 2 ∧ h.2.2.2 2 2 ≤ 900)
def stF (h0 h : am_H) (T : Nat → Int) (N : Nat) (e : PE) : Prop := wf h ∧ teC h T N ∧ flK h T N 900 e ∧ drS h0 h 1900
def stR (h0 h : am_H) (T : Nat → Int) (N : Nat) (ser : Int) (r : PE ⊕ (DS × Nat)) : Prop := match r with
  | .inl e => stF h0 h T N e
  | .inr z => stK h0 h T N ser z
theorem stF.fr {g : am_H} (x : stF h0 h T N e) (w : wf g) (q : frK h g) (l : flK g T N 900 e) : stF h0 g T N e := ⟨w, x.2.1.fr2 q, l, x.2.2.2.fr q⟩
theorem stF.hi {c k : Nat} {v : Int} (x : stF h0 h T N e) (hc : h0.1 ≤ c) (hk : ¬ (c = h0.1 ∧ (k = 5 ∨ k = 6))) : stF h0 (am_put h c k v) T N e := by
  have h1 := x.2.2.2.1
  exact ⟨x.1.hi (by omega), x.2.1.hi (by omega), x.2.2.1.hi (by omega), x.2.2.2.put hc hk⟩
theorem c_told {b : Int} {a : Nat → Int} {hd : Nat} (hs : am_sc scr) (hw : wf h) (k1 : h.2.2.1 hd = (11, 14)) (k2 : h.2.2.1 (hd + 1) = (1, 6)) (r5 : h.2.2.2 hd 5 = ((hd + 1 : Nat) : Int)) (e4 : h.2.2.2 hd 4 = a 4) (eb : ∀ s, s < 6 → h.2.2.2 (hd + 1) s = a (16 + s)) (ha : 0 ≤ a 4 ∧ a 4 ≤ 6) (H : Q (some (.inl (btL a b 6 0))) h) : am_R (am_prog scr) D f_House_hasTold 0 [some (.inr (.inr ((hd : Nat) : Int))), some (.inl (b)), none] [] h Q := by
  refine w_House_hasTold_0 hs hw ?_
  generalize hK : btL a b 6 0 = KK at H
  have iso : am_isO h ((hd : Nat) : Int) 1 := ⟨by omega, by rw [Int.toNat_natCast, k1]⟩
  have lp : ∀ (m s : Nat), s + m = 6 → btL a b m s = KK → am_R (am_prog scr) D f_House_hasTold 2 [some (.inr (.inr ((hd : Nat) : Int))), some (.inl (b)), some (.inl ((s : Int)))] [] h Q := by
    intro m
    induction m with
    | zero =>
      intro s hs6 hb
      refine w_House_hasTold_2 hs hw ⟨iso, ?_⟩
      rw [Int.toNat_natCast, e4]
      refine ⟨fun _ => ?_, fun c => by omega⟩
      rw [← hb] at H; exact H
    | succ m ih =>
      intro s hs6 hb
      simp only [btL] at hb
      refine w_House_hasTold_2 hs hw ⟨iso, ?_⟩
      simp only [Int.toNat_natCast]
      rw [e4, r5, Int.toNat_natCast, eb s (by omega)]
      refine ⟨fun c => ?_, fun c => ⟨iso, ⟨by omega, by rw [Int.toNat_natCast, k2], by omega, by rw [Int.toNat_natCast, k2]; simp; omega⟩, fun c2 y2 h2 => ?_, fun c2 => ?_⟩⟩
      · rw [if_neg c] at hb
        rw [← hb] at H; exact H
      · rw [if_pos c, if_neg c2] at hb
        rw [am_w_id (by omega) (by omega)] at h2
        obtain rfl : y2 = ((s + 1 : Nat) : Int) := by omega
        exact ih (s + 1) (by omega) hb
      · rw [if_pos c, if_pos c2] at hb
        rw [← hb] at H; exact H
  exact lp 6 0 (by omega) hK
theorem c_copy {n : Nat} (hD : 1 ≤ D) (hs : am_sc scr) (hw : wf h) (hn : n < 900) (H : ∀ g, wf g → g.1 = h.1 + 1 → g.2.1 = h.2.1 + n → (∀ c, c ≠ h.1 → g.2.2.1 c = h.2.2.1 c) → g.2.2.1 h.1 = (1, n) → (∀ c, c ≠ h.1 → g.2.2.2 c = h.2.2.2 c) → (∀ j, j < n → g.2.2.2 h.1 j = h.2.2.2 5 j) → Q (some (.inr (.inr ((h.1 : Nat) : Int)))) g) : am_R (am_prog scr) D f_jA_copyOf 0 [some (.inr (.inr (((5) : Nat) : Int))), some (.inl ((n : Int))), none] [] h Q := by
  obtain ⟨D, rfl⟩ : ∃ d, D = d + 1 := ⟨D - 1, by omega⟩
  have h133 := hw.1
  have k5 : h.2.2.1 5 = (1, 900) := hw.k (by omega) (by decide +kernel)
  refine w_jA_copyOf_0 hs hw ?_
  simp only [Int.toNat_natCast]
  rw [k5]
  refine ⟨by decide, fun _ => ⟨by omega, fun h2 q2 => ?_⟩, fun c => by simp at c; omega⟩
  have w2 : wf h2 := by rw [q2]; exact hw.mk
  have k52 : h2.2.2.1 5 = (1, 900) := w2.k (by omega) (by decide +kernel)
  have kn : h2.2.2.1 h.1 = (1, n) := by rw [q2]; show (if h.1 = h.1 then _ else _) = _; rw [if_pos rfl]
  rw [k52]
  refine ⟨by decide, ?_⟩
  refine w_jM_min_0 hs w2 ⟨fun _ => ⟨_, rfl, w2, ?_⟩, fun c => by simp at c; omega⟩
  rw [k52, kn, Int.toNat_natCast]
  refine ⟨by decide, ⟨by omega, rfl⟩, by omega, by omega, by simp; omega, by simp, hi_wo h133, fun h12 q12 => ?_⟩
  refine H h12 (by rw [q12]; exact w2.cpy (hi_wo h133)) (by rw [q12, q2]; rfl) (by rw [q12, q2]; rfl) (fun c hc => ?_) (by rw [q12]; exact kn) (fun c hc => ?_) (fun j hj => ?_)
  · rw [q12, q2]; show (if c = h.1 then _ else _) = _; rw [if_neg hc]
  · funext j
    rw [q12, cpy_at, if_neg (fun z => hc z.1), q2]
    show (if c = h.1 then _ else _) = _; rw [if_neg hc]
  · rw [q12, cpy_at, if_pos ⟨rfl, by omega, by omega⟩, q2, Nat.zero_add, Nat.sub_zero]
    show (if 5 = h.1 then _ else _) = _; rw [if_neg (by omega)]
end LC
