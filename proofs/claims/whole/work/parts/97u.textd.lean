/-! a text: the class, whole -/
def txP (h g : am_H) (ser : Int) (r : PE ⊕ DS) (v : Int) : Prop := wf g ∧ drS h g 1900 ∧ (0 ≤ g.2.2.2 2 2 ∧ g.2.2.2 2 2 ≤ 900) ∧ match r with
  | .inl e => e.1 ≠ 0 ∧ g.2.2.2 3 6 = e.1 ∧ g.2.2.2 3 7 = e.2 ∧ v = -1
  | .inr ds => g.2.2.2 3 6 = 0 ∧ g.2.2.2 3 7 = -1 ∧ v = (h.1 : Int) ∧ drD g h.1 ser ds
def TKF : List (Nat × Nat) := [(3, 0), (3, 1), (3, 2), (3, 3), (3, 4), (3, 5), (3, 6), (3, 7)]
abbrev frX (h g : am_H) : Prop := fr [] TKF h g
section TD
variable {scr : Nat × (Nat → Int)} {d : Nat} {h : am_H} {Q : Option am_V → am_H → Prop} {T : Nat → Int} {N M p q D B : Nat} {e : PE} {ds : DS} {h0 g : am_H} {ser : Int}
theorem drS.base (x : drS h0 g B) (q : frX h h0) : drS h g B := by
  have hF : ∀ z ∈ TKF, z ∈ RXF := by decide
  obtain ⟨x1, x2, x3, x4, x5, x6, x7, x8, x9, x10, x11, x12⟩ := x
  rw [q.1] at x1 x2 x3 x4 x5 x6 x7 x8 x9 x10 x11
  rw [q.2.1] at x12
  exact ⟨x1, fun c hc => by rw [x2 c hc, q.2.2.1], fun c k hc n hk => by rw [x3 c k hc n hk, q.f c k (by simp) (fun z => hk (hF _ z))], x4, x5, x6, x7, x8, x9, x10, x11, x12⟩
theorem c_text66 {x2 x3 x4 a1 : Int} {r : PE ⊕ DS} (hD : 1 ≤ D) (hs : am_sc scr) (hr : match r with
  | .inl e => stF h0 g T N e
  | .inr ds => ∃ p, p ≤ N ∧ stK h0 g T N ser (ds, p)) (hN : N ≤ 900) (q0 : fr [] TKF h h0) (H : ∀ g v, txP h g ser r v → Q (some (.inr (.inr v))) g) : am_R (am_prog scr) D f_Reader_readText 66 [some (.inr (.inr (((2) : Nat) : Int))), some (.inr (.inr a1)), some (.inl (x2)), some (.inl (x3)), some (.inl (x4))] [] g Q := by
  obtain ⟨D, rfl⟩ : ∃ d, D = d + 1 := ⟨D - 1, by omega⟩
  have h1 := q0.1
  cases r with
  | inl ee =>
    have z : stF h0 g T N ee := hr
    have hm := z.2.2.1.2.2.2.2
    refine w_Reader_readText_66 hs z.1 (c_ok_f hs z.1 z.2.2.1 ⟨_, rfl, z.1, fun _ => ⟨by omega, ?_⟩, fun c => absurd rfl c⟩)
    exact H g (-1) ⟨z.1, z.2.2.2.base q0, by omega, z.2.2.1.2.2.1, z.2.2.1.2.1, z.2.2.1.2.2.2.1, rfl⟩
  | inr ds =>
    obtain ⟨p, pN, z⟩ := hr
    have z6 := z.2.2.2.2.2
    have e23 := z.2.2.2.1.2.2.2.1
    refine w_Reader_readText_66 hs z.1 (c_ok hs z.1 z.2.2.1 ⟨_, rfl, z.1, fun c => absurd c (by omega), fun _ => ?_⟩)
    rw [e23, h1]
    refine ⟨by omega, H g _ ⟨z.1, (z.2.2.2.1.base q0).mono (by simp only; omega), z6, z.2.2.1.2.1, z.2.2.1.2.2, rfl, ?_⟩⟩
    have := z.2.2.2.2.1
    rw [h1] at this
    exact this
theorem c_lines {x2 x3 a1 : Int} (hD : 63 ≤ D) (hs : am_sc scr) (hN : N ≤ 900) : ∀ (m : Nat) (r : DS × Nat) (i : Nat) (g : am_H), N < r.2 + m → dsI r.1 r.2 → i + 23 ≤ r.2 → stK h0 g T N ser r → (∀ (g : am_H) (x4 : Int), (match linesF T N m r with
  | .inl e => stF h0 g T N e
  | .inr ds => ∃ p, p ≤ N ∧ stK h0 g T N ser (ds, p)) → am_R (am_prog scr) D f_Reader_readText 66 [some (.inr (.inr (((2) : Nat) : Int))), some (.inr (.inr a1)), some (.inl (x2)), some (.inl (x3)), some (.inl (x4))] [] g Q) → am_R (am_prog scr) D f_Reader_readText 28 [some (.inr (.inr (((2) : Nat) : Int))), some (.inr (.inr a1)), some (.inl (x2)), some (.inl (x3)), some (.inl ((i : Int)))] [] g Q := by
  obtain ⟨D, rfl⟩ : ∃ d, D = d + 1 := ⟨D - 1, by omega⟩
  intro m
  induction m with
  | zero => intro r i g h1 I hi x; have := x.2.2.1.1.1; omega
  | succ m ih =>
    intro r i g h1 I hi x K
    have xx := x
    obtain ⟨x1, x2', x3', x4, x5, x6⟩ := xx
    have pN : r.2 ≤ N := x3'.1.1
    have hT := x2'.2.2.2.2
    simp only [linesF] at K
    have kc := (tk_kc (N := N) (p := r.2) hT (j := 1) (by omega)).2.2.2.1
    refine w_Reader_readText_28 hs x1 ⟨fun c => by omega, fun _ => c_ok hs x1 x3' ⟨_, rfl, x1, fun c => absurd c (by omega), fun _ => ?_⟩⟩
    have atE : ∀ Q2 : Option am_V → am_H → Prop, Q2 (some (.inl (if tkK T N r.2 = 26 then 1 else 0))) g → am_R (am_prog scr) D f_Tokens_atEnd 0 [some (.inr (.inr (((3) : Nat) : Int)))] [] g Q2 := by
      intro Q2 hQ
      refine w_Tokens_atEnd_0 hs x1 ?_
      rw [x3'.1.2.2.2.1]
      refine ⟨fun c => ?_, fun c => ?_⟩
      · rw [if_neg (fun z => c (kc.mpr z))] at hQ; exact hQ
      · rw [if_pos (kc.mp c)] at hQ; exact hQ
    refine atE _ ⟨_, rfl, x1, fun c => ?_, fun c => ?_⟩
    · have q := yes10 c
      rw [if_pos q] at K
      exact K g _ ⟨r.2, pN, x⟩
    · have q := ite10.mp c
      rw [if_neg q] at K
      refine c_line (ds := r.1) (p := r.2) (by omega) hs x hN I q (fun g2 y => ?_)
      cases hl : lineF T N r.1 r.2 with
      | inl ee =>
        rw [hl] at y K
        have y : stF h0 g2 T N ee := y
        refine ⟨rfl, y.1, fun y6 h6 => ?_⟩
        rw [am_w_id (by omega) (by omega)] at h6
        refine w_Reader_readText_28 hs y.1 ⟨fun _ => K g2 _ y, fun _ => c_ok_f hs y.1 y.2.2.1 ⟨_, rfl, y.1, fun _ => K g2 _ y, fun c => absurd rfl c⟩⟩
      | inr z =>
        rw [hl] at y K
        have y : stK h0 g2 T N ser z := y
        obtain ⟨i1, i2, i3⟩ := line_I hT hN pN I hl
        refine ⟨rfl, y.1, fun y6 h6 => ?_⟩
        rw [am_w_id (by omega) (by omega)] at h6
        obtain rfl : y6 = ((i + 1 : Nat) : Int) := by omega
        exact ih z (i + 1) g2 (by omega) i1 (by omega) y K
theorem c_text {x2 : Int} (hD : 65 ≤ D) (hs : am_sc scr) (hw : wf h) (hT : ∀ k, 0 ≤ T k ∧ T k < 256) (hN : N ≤ 900) (hx : x2 = (N : Int)) (h1 : ∀ k, k < N → (-128 ≤ h.2.2.2 1 k ∧ h.2.2.2 1 k < 128) ∧ h.2.2.2 1 k % 256 = T k) (hz : 0 ≤ h.2.2.2 2 2 ∧ h.2.2.2 2 2 ≤ 900) (H : ∀ g v, txP h g ser (textF T N) v → Q (some (.inr (.inr v))) g) : am_R (am_prog scr) D f_Reader_readText 0 [some (.inr (.inr (((2) : Nat) : Int))), some (.inr (.inr (((1) : Nat) : Int))), some (.inl (x2)), some (.inl (ser)), none] [] h Q := by
  obtain ⟨D, rfl⟩ : ∃ d, D = d + 1 := ⟨D - 1, by omega⟩
  obtain ⟨D, rfl⟩ : ∃ d, D = d + 1 := ⟨D - 1, by omega⟩
  refine w_Reader_readText_0 hs hw (w_Tokens_begin_0 hs hw ⟨by omega, fun a2 q2 a3 q3 a4 q4 a5 q5 a6 q6 => ?_⟩)
  have w6 : wf a6 := by rw [q6, q5, q4, q3, q2]; exact ((((hw.put np_3_0).put np_3_1).put np_3_4).put np_3_6).put np_3_7
  have f6 : fr [] TKF h a6 := by rw [q6, q5, q4, q3, q2]; exact ((((fr.rfl.put (Or.inr (by decide))).put (Or.inr (by decide))).put (Or.inr (by decide))).put (Or.inr (by decide))).put (Or.inr (by decide))
  have t6 : teC a6 T N := by
    refine ⟨hN, ?_, ?_, fun k hk => ?_, hT⟩
    · rw [q6, put_ne (by omega), q5, put_ne (by omega), q4, put_ne (by omega), q3, put_ne (by omega), q2, put_eq]; rfl
    · rw [q6, put_ne (by omega), q5, put_ne (by omega), q4, put_ne (by omega), q3, put_eq]; exact hx
    · rw [f6.c 1 (by simp) (by decide)]; exact h1 k hk
  refine am_R.to (d := 0 + 5) (by omega) (k_advance hs w6 t6 (p := 0) (by rw [q6, put_ne (by omega), q5, put_ne (by omega), q4, put_eq]; rfl) (by omega) (fun g1 w1 f1 e3 e4 e2 e5 => ⟨rfl, w1, rfl, w1, fun h2 qm => ?_⟩))
  have F1 : fr [] TKF h g1 := f6.trans (f1.mono (by simp) (by decide))
  have o1 : okK g1 T N 0 := ⟨⟨by omega, e3, e4, e2, fun z => by rw [e5]; exact (tkN_b hT z).2⟩, by rw [f1.f 3 6 (by simp) (by decide), q6, put_ne (by omega), q5, put_eq], by rw [f1.f 3 7 (by simp) (by decide), q6, put_eq]⟩
  have t1 : teC g1 T N := t6.fr f1
  have h133 := w1.1
  refine ⟨⟨by omega, by rw [qm, Int.toNat_natCast]; show (if g1.1 = g1.1 then ((11, 14) : Nat × Nat) else _).1 = 11; rw [if_pos rfl]⟩, ?_⟩
  refine k_Hinit hs qm (fun g3 b1 b2 b3 b4 => ?_)
  have lo : ∀ c, c < g1.1 → g3.2.2.2 c = g1.2.2.2 c := fun c hc => funext fun j => by rw [b4, if_neg (by omega), if_neg (by omega)]
  have w3 : wf g3 := ⟨by omega, fun i hi => by rw [b3, if_neg (by omega), if_neg (by omega)]; exact w1.2.1 i hi, fun q hq => by
    have : ∀ q ∈ wr_l, q.1 < 133 := by decide +kernel
    rw [lo q.1 (by have := this q hq; omega)]; exact w1.2.2 q hq⟩
  refine ⟨rfl, w3, fun h5 q5' => ?_⟩
  have lo5 : ∀ c, c ≠ 2 → h5.2.2.2 c = g3.2.2.2 c := fun c hc => by rw [q5', put_c hc]
  have s5 : drS g1 h5 0 := by
    refine ⟨h133, fun c hc => ?_, fun c k hc n hk => ?_, by rw [q5', put_eq], ?_, ?_, ?_, ?_, ?_, ?_, ?_, ?_⟩
    · rw [q5']; show g3.2.2.1 c = _; rw [b3, if_neg (by omega), if_neg (by omega)]
    · rw [q5', put_ne (fun z => hk (by rw [z.1, z.2]; decide)), lo c hc]
    · rw [q5']; show g3.2.2.1 g1.1 = _; rw [b3, if_pos rfl]
    · rw [q5']; show g3.2.2.1 (g1.1 + 1) = _; rw [b3, if_neg (by omega), if_pos (Or.inl rfl)]
    · rw [q5']; show g3.2.2.1 (g1.1 + 2) = _; rw [b3, if_neg (by omega), if_pos (Or.inr rfl)]
    · rw [lo5 _ (by omega), b4, if_pos rfl]; rfl
    · rw [lo5 _ (by omega), b4, if_pos rfl]; rfl
    · rw [q5']; show g1.1 + 3 ≤ g3.1; omega
    · rw [q5']; show g3.1 ≤ _ ∧ g3.1 ≤ _; omega
    · rw [q5']; show g3.2.1 ≤ _; omega
  have hdv : ∀ j, h5.2.2.2 g1.1 j = iniH ser g1.1 j := fun j => by rw [lo5 _ (by omega), b4, if_pos rfl]
  have d5 : drD h5 g1.1 ser ds0 := by
    refine ⟨hdv 0, ⟨hdv 1, hdv 2, hdv 3, hdv 4⟩, ⟨hdv 7, hdv 8, hdv 9, hdv 10, hdv 11⟩, fun s hs => ⟨?_, ?_⟩, Or.inl ⟨by decide, hdv 12⟩, Or.inl ⟨by decide, hdv 13⟩⟩
    · rw [lo5 _ (by omega), b4, if_neg (by omega), if_pos (Or.inl rfl)]
      show (0 : Int) = row0 (16 + s); unfold row0; rw [if_neg (by omega)]
    · rw [lo5 _ (by omega), b4, if_neg (by omega), if_pos (Or.inr rfl)]
      show (0 : Int) = row0 (22 + s); unfold row0; rw [if_neg (by omega)]
  have k5 : stK g1 h5 T N ser (ds0, 0) := ⟨by rw [q5']; exact w3.put np_2_3, t1.of (by rw [lo5 3 (by omega), lo 3 (by omega)]) (by rw [lo5 1 (by omega), lo 1 (by omega)]), o1.of (by rw [lo5 3 (by omega), lo 3 (by omega)]), s5, d5, by rw [q5', put_ne (by omega), lo 2 (by omega), F1.f 2 2 (by simp) (by decide)]; exact hz⟩
  refine c_head (by omega) hs k5 hN (fun g6 y6 => ?_)
  have K66 : ∀ (g : am_H) (x4 : Int), (match textF T N with
    | .inl e => stF g1 g T N e
    | .inr ds => ∃ p, p ≤ N ∧ stK g1 g T N ser (ds, p)) → am_R (am_prog scr) (D + 2) f_Reader_readText 66 [some (.inr (.inr (((2) : Nat) : Int))), some (.inr (.inr (((1) : Nat) : Int))), some (.inl (x2)), some (.inl (ser)), some (.inl (x4))] [] g Q := fun g x4 hr => c_text66 (by omega) hs hr hN F1 H
  unfold textF at K66
  cases hh : headF T N with
  | inl ee =>
    rw [hh] at y6 K66
    have y : stF g1 g6 T N ee := y6
    refine ⟨rfl, y.1, ?_⟩
    exact w_Reader_readText_28 hs y.1 ⟨fun _ => K66 g6 _ y, fun _ => c_ok_f hs y.1 y.2.2.1 ⟨_, rfl, y.1, fun _ => K66 g6 _ y, fun c => absurd rfl c⟩⟩
  | inr z =>
    rw [hh] at y6 K66
    have y : stK g1 g6 T N ser z := y6
    obtain ⟨i1, i2⟩ := head_I hT hh
    have p23 := i1.1.2.2.2.2.2.2.2.2.2.2.2.2.2.2
    exact ⟨rfl, y.1, c_lines (by omega) hs hN 900 z 0 g6 (by omega) i1 (by omega) y K66⟩
end TD
