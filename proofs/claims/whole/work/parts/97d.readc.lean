/-! reading: the class -/
def RCF : List (Nat × Nat) := [(3, 2), (3, 3), (3, 4), (3, 5), (3, 6), (3, 7), (2, 2)]
abbrev frK (h g : am_H) : Prop := fr [5] RCF h g
def okK (h : am_H) (T : Nat → Int) (N p : Nat) : Prop := cuC h T N p ∧ h.2.2.2 3 6 = 0 ∧ h.2.2.2 3 7 = -1
def flK (h : am_H) (T : Nat → Int) (N M : Nat) (e : Int × Int) : Prop := (∃ p, cuC h T N p) ∧ h.2.2.2 3 6 = e.1 ∧ e.1 ≠ 0 ∧ h.2.2.2 3 7 = e.2 ∧ 0 ≤ h.2.2.2 2 2 ∧ h.2.2.2 2 2 ≤ (M : Int)
theorem flK.mono {h : am_H} {T : Nat → Int} {N M M2 : Nat} {e : Int × Int} (o : flK h T N M e) (hm : M ≤ M2) : flK h T N M2 e := ⟨o.1, o.2.1, o.2.2.1, o.2.2.2.1, o.2.2.2.2.1, by have := o.2.2.2.2.2; omega⟩
/-- codes that were added behind b others -/
def dK (h g : am_H) (b n : Nat) (C : Nat → Int) : Prop := g.2.2.2 2 2 = ((b + n : Nat) : Int) ∧ (∀ j, b ≤ j → j < b + n → g.2.2.2 5 j = C j) ∧ ∀ j, j < b → g.2.2.2 5 j = h.2.2.2 5 j
def PK (T : Nat → Int) (N M : Nat) (h g : am_H) (b : Nat) (r : PR) : Prop := match r with
  | .inl e => flK g T N M e
  | .inr x => okK g T N x.1 ∧ dK h g b x.2.2.1 (x.2.2.2.1 b)
theorem PK.ok {T : Nat → Int} {N M b : Nat} {h g : am_H} {x : PX} (a : okK g T N x.1) (c : dK h g b x.2.2.1 (x.2.2.2.1 b)) : PK T N M h g b (.inr x) := ⟨a, c⟩
theorem PK.fl {T : Nat → Int} {N M b : Nat} {h g : am_H} {e : Int × Int} (a : flK g T N M e) : PK T N M h g b (.inl e) := a
section RC
variable {scr : Nat × (Nat → Int)} {d : Nat} {h : am_H} {Q : Option am_V → am_H → Prop} {T : Nat → Int} {N M p b D : Nat} {e : Int × Int}
theorem teC.fr2 {g : am_H} (t : teC h T N) (q : frK h g) : teC g T N := by
  obtain ⟨t1, t2, t3, t4, t5⟩ := t
  refine ⟨t1, by rw [q.f 3 0 (by simp) (by decide)]; exact t2, by rw [q.f 3 1 (by simp) (by decide)]; exact t3, fun k hk => by rw [q.c 1 (by simp) (by decide)]; exact t4 k hk, t5⟩
theorem cuC.fr {g : am_H} {L : List Nat} {F : List (Nat × Nat)} (c : cuC h T N p) (q : fr L F h g) (h1 : 3 ∉ L) (h2 : ∀ j, 2 ≤ j → j ≤ 5 → (3, j) ∉ F) : cuC g T N p := by
  obtain ⟨c1, c2, c3, c4, c5⟩ := c
  exact ⟨c1, by rw [q.f 3 3 h1 (h2 3 (by omega) (by omega))]; exact c2, by rw [q.f 3 4 h1 (h2 4 (by omega) (by omega))]; exact c3, by rw [q.f 3 2 h1 (h2 2 (by omega) (by omega))]; exact c4, by rw [q.f 3 5 h1 (h2 5 (by omega) (by omega))]; exact c5⟩
theorem c_adv (hD : 5 ≤ D) (hs : am_sc scr) (hw : wf h) (t : teC h T N) (o : okK h T N p) (H : ∀ g, wf g → fr [5] RCF h g → okK g T N (tkE T N p) → g.2.2.2 5 = h.2.2.2 5 → g.2.2.2 2 2 = h.2.2.2 2 2 → Q none g) : am_R (am_prog scr) D f_Tokens_advance 0 [some (.inr (.inr (((3) : Nat) : Int))), none] [] h Q := by
  obtain ⟨⟨o1, o2, o3, o4, o5⟩, o6⟩ := o
  have b := tk_b (T := T) o1
  refine am_R.to (d := 0 + 5) (by omega) (k_advance hs hw t o3 b.2.2.1 (fun g wg fg g3 g4 g2 g5 => ?_))
  refine H g wg (fg.mono (by simp) (by decide)) ⟨⟨b.2.2.1, g3, g4, g2, fun z => ?_⟩, ?_⟩ (fg.c 5 (by simp) (by decide)) (fg.f 2 2 (by simp) (by decide))
  · rw [g5]; exact (tkN_b t.2.2.2.2 z).2
  · rw [fg.f 3 6 (by simp) (by decide), fg.f 3 7 (by simp) (by decide)]; exact o6
theorem c_is {j : Nat} {a1 : Int} (hD : 5 ≤ D) (hs : am_sc scr) (hw : wf h) (t : teC h T N) (cu : cuC h T N p) (hj : 1 ≤ j ∧ j < 37) (ea : a1 = -2 - (j : Int)) (H : Q (some (.inl (if tkK T N p = kyT j then 1 else 0))) h) : am_R (am_prog scr) D f_Tokens_is 0 [some (.inr (.inr (((3) : Nat) : Int))), some (.inr (.inr a1)), none] [] h Q :=
  am_R.to (d := 0 + 5) (by omega) (k_is hs hw t cu hj ea H)
theorem c_ok (hs : am_sc scr) (hw : wf h) (o : okK h T N p) (H : Q (some (.inl (1))) h) : am_R (am_prog scr) D f_Tokens_isFaultless 0 [some (.inr (.inr (((3) : Nat) : Int)))] [] h Q := w_Tokens_isFaultless_0 hs hw ⟨fun c => absurd o.2.1 c, fun _ => H⟩
theorem c_ok_f (hs : am_sc scr) (hw : wf h) (o : flK h T N M e) (H : Q (some (.inl (0))) h) : am_R (am_prog scr) D f_Tokens_isFaultless 0 [some (.inr (.inr (((3) : Nat) : Int)))] [] h Q := w_Tokens_isFaultless_0 hs hw ⟨fun _ => H, fun c => absurd (o.2.1.symm.trans c) o.2.2.1⟩
theorem c_num (hs : am_sc scr) (hw : wf h) (t : teC h T N) (o : cuC h T N p) (H : Q (some (.inl (if tkK T N p = 25 then 1 else 0))) h) : am_R (am_prog scr) D f_Tokens_isNumber 0 [some (.inr (.inr (((3) : Nat) : Int)))] [] h Q := by
  have kc := (tk_kc (N := N) (p := p) t.2.2.2.2 (j := 1) (by omega)).2.2.1
  refine w_Tokens_isNumber_0 hs hw ?_
  rw [o.2.2.2.1]
  refine ⟨fun c => ?_, fun c => ?_⟩
  · rw [if_neg (fun z => c (kc.mpr z))] at H; exact H
  · rw [if_pos (kc.mp c)] at H; exact H
theorem c_ref {k : Int} (hs : am_sc scr) (hw : wf h) (t : teC h T N) (o : okK h T N p) (hk : k ≠ 0) (hz : 0 ≤ h.2.2.2 2 2 ∧ h.2.2.2 2 2 ≤ (M : Int)) (H : ∀ g, wf g → fr [5] RCF h g → flK g T N M (if tkK T N p = 27 then 1 else k, (tkS T N p : Int)) → Q none g) : am_R (am_prog scr) D f_Tokens_refuse 0 [some (.inr (.inr (((3) : Nat) : Int))), some (.inl (k))] [] h Q := by
  have kc := (tk_kc (N := N) (p := p) t.2.2.2.2 (j := 1) (by omega)).2.2.2.2
  have o0 := o
  obtain ⟨⟨o1, o2, o3, o4, o5⟩, o6⟩ := o
  have fin : ∀ (x : Int) (h1 h2 : am_H), x ≠ 0 → h1 = am_put h 3 6 x → h2 = am_put h1 3 7 (h1.2.2.2 3 3) → wf h2 ∧ fr [5] RCF h h2 ∧ flK h2 T N M (x, (tkS T N p : Int)) := by
    intro x h1 h2 hx q1 q2
    have e6 : h1.2.2.2 3 3 = (tkS T N p : Int) := by rw [q1, put_ne (by omega)]; exact o2
    rw [e6] at q2
    have f2 : fr [] [(3, 6), (3, 7)] h h2 := by rw [q2, q1]; exact (fr.rfl.put (Or.inr (by decide))).put (Or.inr (by decide))
    refine ⟨by rw [q2, q1]; exact (hw.put np_3_6).put np_3_7, f2.mono (by simp) (by decide), ⟨p, o0.1.fr f2 (by simp) (fun j j1 j2 => by simp; omega)⟩, ?_, hx, ?_, ?_⟩
    · rw [q2, put_ne (by omega), q1, put_eq]
    · rw [q2, put_eq]
    · rw [f2.f 2 2 (by simp) (by decide)]; exact hz
  refine w_Tokens_refuse_0 hs hw ?_
  rw [o6.1, o4]
  refine ⟨fun c => absurd rfl c, fun _ => ⟨fun c h1 q1 h2 q2 => ?_, fun c h1 q1 h2 q2 => ?_⟩⟩
  · rw [if_neg (fun z => c (kc.mpr z))] at H
    obtain ⟨a1, a2, a3⟩ := fin k h1 h2 hk q1 q2
    exact H h2 a1 a2 a3
  · rw [if_pos (kc.mp c)] at H
    obtain ⟨a1, a2, a3⟩ := fin 1 h1 h2 (by omega) q1 q2
    exact H h2 a1 a2 a3
theorem c_ref_f {k : Int} (hs : am_sc scr) (hw : wf h) (o : flK h T N M e) (H : Q none h) : am_R (am_prog scr) D f_Tokens_refuse 0 [some (.inr (.inr (((3) : Nat) : Int))), some (.inl (k))] [] h Q := w_Tokens_refuse_0 hs hw ⟨fun _ => H, fun c => absurd (o.2.1.symm.trans c) o.2.2.1⟩
theorem c_want {j : Nat} {a1 : Int} (hD : 6 ≤ D) (hs : am_sc scr) (hw : wf h) (t : teC h T N) (o : okK h T N p) (hj : 1 ≤ j ∧ j < 37) (ea : a1 = -2 - (j : Int)) (hz : 0 ≤ h.2.2.2 2 2 ∧ h.2.2.2 2 2 ≤ (M : Int)) (H1 : tkK T N p = kyT j → ∀ g, wf g → fr [5] RCF h g → okK g T N (tkE T N p) → g.2.2.2 5 = h.2.2.2 5 → g.2.2.2 2 2 = h.2.2.2 2 2 → Q none g) (H2 : tkK T N p ≠ kyT j → ∀ g, wf g → fr [5] RCF h g → flK g T N M (if tkK T N p = 27 then 1 else 2, (tkS T N p : Int)) → Q none g) : am_R (am_prog scr) D f_Tokens_want 0 [some (.inr (.inr (((3) : Nat) : Int))), some (.inr (.inr a1))] [] h Q := by
  obtain ⟨D, rfl⟩ : ∃ d, D = d + 1 := ⟨D - 1, by omega⟩
  refine w_Tokens_want_0 hs hw ⟨fun _ => c_is (by omega) hs hw t o.1 hj ea ⟨_, rfl, hw, fun c => ?_, fun c => ?_⟩, fun c => absurd o.2.1 c⟩
  · have q : tkK T N p ≠ kyT j := fun z => by rw [if_pos z] at c; omega
    exact c_ref hs hw t o (by omega) hz (fun g wg fg og => ⟨rfl, wg, H2 q g wg fg og⟩)
  · have q : tkK T N p = kyT j := by
      by_cases q : tkK T N p = kyT j
      · exact q
      · rw [if_neg q] at c; exact absurd rfl c
    exact c_adv (by omega) hs hw t o (fun g wg fg og e1 e2 => ⟨rfl, wg, H1 q g wg fg og e1 e2⟩)
theorem c_want_f {a1 : Int} (hD : 6 ≤ D) (hs : am_sc scr) (hw : wf h) (o : flK h T N M e) (H : Q none h) : am_R (am_prog scr) D f_Tokens_want 0 [some (.inr (.inr (((3) : Nat) : Int))), some (.inr (.inr a1))] [] h Q := by
  obtain ⟨D, rfl⟩ : ∃ d, D = d + 1 := ⟨D - 1, by omega⟩
  exact w_Tokens_want_0 hs hw ⟨fun c => absurd (o.2.1.symm.trans c) o.2.2.1, fun _ => H⟩
theorem c_app {c : Int} (hs : am_sc scr) (hw : wf h) (o : okK h T N p) (e : h.2.2.2 2 2 = (b : Int)) (hb : b < 900) (H : ∀ g, wf g → fr [5] RCF h g → okK g T N p → dK h g b 1 (fun _ => c) → Q none g) : am_R (am_prog scr) D f_Reader_append 0 [some (.inr (.inr (((2) : Nat) : Int))), some (.inl (c))] [] h Q := by
  refine w_Reader_append_0 hs hw ?_
  rw [e]
  refine ⟨fun c => by omega, fun _ => ⟨by omega, fun h2 q2 h3 q3 => ?_⟩⟩
  rw [Int.toNat_natCast] at q2
  have e2 : h2.2.2.2 2 2 = (b : Int) := by rw [q2, put_ne (by omega)]; exact e
  rw [e2, am_w_id (by omega) (by omega)] at q3
  have f3 : fr [5] [(2, 2)] h h3 := by rw [q3, q2]; exact (fr.rfl.put (Or.inl (by decide))).put (Or.inr (by decide))
  refine H h3 (by rw [q3, q2]; exact (hw.pa (by decide +kernel)).put np_2_2) (f3.mono (by simp) (by decide)) ⟨o.1.fr f3 (by decide) (fun j j1 j2 => by simp), by rw [f3.f 3 6 (by decide) (by decide), f3.f 3 7 (by decide) (by decide)]; exact o.2⟩ ⟨?_, fun j j1 j2 => ?_, fun j hj => ?_⟩
  · rw [q3, put_eq]; omega
  · obtain rfl : j = b := by omega
    rw [q3, put_ne (by omega), q2, put_eq]
  · rw [q3, put_ne (by omega), q2, put_ne (by omega)]
theorem c_app_f {c : Int} (hs : am_sc scr) (hw : wf h) (o : flK h T N M e) (H : ∀ g, wf g → fr [5] RCF h g → flK g T N (M + 1) e → Q none g) : am_R (am_prog scr) D f_Reader_append 0 [some (.inr (.inr (((2) : Nat) : Int))), some (.inl (c))] [] h Q := by
  obtain ⟨⟨p, o1⟩, o2, o3, o4, o5, o6⟩ := o
  refine w_Reader_append_0 hs hw ⟨fun _ => H h hw fr.rfl ⟨⟨p, o1⟩, o2, o3, o4, o5, by omega⟩, fun c => ⟨by omega, fun h2 q2 h3 q3 => ?_⟩⟩
  have e2 : h2.2.2.2 2 2 = h.2.2.2 2 2 := by rw [q2, put_ne (by omega)]
  rw [e2, am_w_id (by omega) (by omega)] at q3
  have f3 : fr [5] [(2, 2)] h h3 := by rw [q3, q2]; exact (fr.rfl.put (Or.inl (by decide))).put (Or.inr (by decide))
  refine H h3 (by rw [q3, q2]; exact (hw.pa (by decide +kernel)).put np_2_2) (f3.mono (by simp) (by decide)) ⟨⟨p, o1.fr f3 (by decide) (fun j j1 j2 => by simp)⟩, by rw [f3.f 3 6 (by decide) (by decide)]; exact o2, o3, by rw [f3.f 3 7 (by decide) (by decide)]; exact o4, ?_, ?_⟩
  · rw [q3, put_eq]; omega
  · rw [q3, put_eq]; omega
theorem c_aim {x : Nat} (hs : am_sc scr) (hw : wf h) (o : okK h T N p) (hx : x < 900) (H : ∀ g, wf g → fr [5] RCF h g → okK g T N p → g.2.2.2 2 2 = h.2.2.2 2 2 → (∀ j, g.2.2.2 5 j = if j = x then h.2.2.2 2 2 else h.2.2.2 5 j) → Q none g) : am_R (am_prog scr) D f_Reader_aim 0 [some (.inr (.inr (((2) : Nat) : Int))), some (.inl ((x : Int)))] [] h Q := by
  refine w_Reader_aim_0 hs hw ⟨fun c => by omega, fun _ => ⟨by omega, fun h2 q2 => ?_⟩⟩
  rw [Int.toNat_natCast] at q2
  have f3 : fr [5] [] h h2 := by rw [q2]; exact fr.rfl.put (Or.inl (by decide))
  refine H h2 (by rw [q2]; exact hw.pa (by decide +kernel)) (f3.mono (by simp) (by decide)) ⟨o.1.fr f3 (by decide) (fun j j1 j2 => by simp), by rw [f3.f 3 6 (by decide) (by decide), f3.f 3 7 (by decide) (by decide)]; exact o.2⟩ (f3.f 2 2 (by decide) (by decide)) (fun j => ?_)
  by_cases q : j = x
  · subst q; rw [if_pos rfl, q2, put_eq]
  · rw [if_neg q, q2, put_ne (by omega)]
theorem c_aim_f {x : Int} (hs : am_sc scr) (hw : wf h) (o : flK h T N M e) (hx : 0 ≤ x) (H : ∀ g, wf g → fr [5] RCF h g → flK g T N M e → Q none g) : am_R (am_prog scr) D f_Reader_aim 0 [some (.inr (.inr (((2) : Nat) : Int))), some (.inl (x))] [] h Q := by
  refine w_Reader_aim_0 hs hw ⟨fun _ => H h hw fr.rfl o, fun c => ⟨by omega, fun h2 q2 => ?_⟩⟩
  obtain ⟨⟨p, o1⟩, o2, o3, o4, o5, o6⟩ := o
  have f3 : fr [5] [] h h2 := by rw [q2]; exact fr.rfl.put (Or.inl (by decide))
  exact H h2 (by rw [q2]; exact hw.pa (by decide +kernel)) (f3.mono (by simp) (by decide)) ⟨⟨p, o1.fr f3 (by decide) (fun j j1 j2 => by simp)⟩, by rw [f3.f 3 6 (by decide) (by decide)]; exact o2, o3, by rw [f3.f 3 7 (by decide) (by decide)]; exact o4, by rw [f3.f 2 2 (by decide) (by decide)]; exact o5, by rw [f3.f 2 2 (by decide) (by decide)]; exact o6⟩
theorem c_go {x : Int} (hD : 6 ≤ D) (hs : am_sc scr) (hw : wf h) (t : teC h T N) (o : okK h T N p) (hz : 0 ≤ h.2.2.2 2 2 ∧ h.2.2.2 2 2 ≤ (M : Int)) (H1 : x < 6 → ∀ g, wf g → fr [5] RCF h g → okK g T N (tkE T N p) → g.2.2.2 5 = h.2.2.2 5 → g.2.2.2 2 2 = h.2.2.2 2 2 → Q (some (.inl (1))) g) (H2 : ¬ x < 6 → ∀ g, wf g → fr [5] RCF h g → flK g T N M (if tkK T N p = 27 then 1 else 4, (tkS T N p : Int)) → Q (some (.inl (0))) g) : am_R (am_prog scr) D f_Reader_goWithin 0 [some (.inr (.inr (((2) : Nat) : Int))), some (.inl (x))] [] h Q := by
  obtain ⟨D, rfl⟩ : ∃ d, D = d + 1 := ⟨D - 1, by omega⟩
  exact w_Reader_goWithin_0 hs hw ⟨fun c => c_adv (by omega) hs hw t o (fun g wg fg og e1 e2 => ⟨rfl, wg, H1 c g wg fg og e1 e2⟩), fun c => c_ref hs hw t o (by omega) hz (fun g wg fg og => ⟨rfl, wg, H2 c g wg fg og⟩)⟩
theorem ite10 {P : Prop} [Decidable P] : ((if P then (1 : Int) else 0) = 0 ↔ ¬ P) := by
  by_cases q : P
  · rw [if_pos q]; exact ⟨fun z => by omega, fun z => absurd q z⟩
  · rw [if_neg q]; exact ⟨fun _ => q, fun _ => rfl⟩
theorem c_named (hD : 6 ≤ D) (hs : am_sc scr) (hw : wf h) (t : teC h T N) (o : cuC h T N p) (H : Q (some (.inl (-1 - wdO (tkK T N p)))) h) : am_R (am_prog scr) D f_Reader_valueNamed 0 [some (.inr (.inr (((2) : Nat) : Int)))] [] h Q := by
  obtain ⟨D, rfl⟩ : ∃ d, D = d + 1 := ⟨D - 1, by omega⟩
  have y : ∀ k : Int, ¬ (if tkK T N p = k then (1 : Int) else 0) = 0 → tkK T N p = k := fun k c => Decidable.not_not.mp (fun z => c (ite10.mpr z))
  refine w_Reader_valueNamed_0 hs hw (c_is (j := 15) (by omega) hs hw t o (by omega) (by omega) ⟨_, rfl, hw, fun c1 => ?_, fun c => ?_⟩)
  · have c1 := ite10.mp c1
    refine c_is (j := 16) (by omega) hs hw t o (by omega) (by omega) ⟨_, rfl, hw, fun c2 => ?_, fun c => ?_⟩
    · have c2 := ite10.mp c2
      refine c_is (j := 10) (by omega) hs hw t o (by omega) (by omega) ⟨_, rfl, hw, fun c3 => ?_, fun c => ?_⟩
      · have c3 := ite10.mp c3
        refine c_is (j := 17) (by omega) hs hw t o (by omega) (by omega) ⟨_, rfl, hw, fun c4 => ?_, fun c => ?_⟩
        · have c4 := ite10.mp c4
          refine c_is (j := 18) (by omega) hs hw t o (by omega) (by omega) ⟨_, rfl, hw, fun c5 => ?_, fun c => ?_⟩
          · have c5 := ite10.mp c5
            refine c_is (j := 8) (by omega) hs hw t o (by omega) (by omega) ⟨_, rfl, hw, fun c6 => ?_, fun c => ?_⟩
            · have c6 := ite10.mp c6
              refine c_is (j := 12) (by omega) hs hw t o (by omega) (by omega) ⟨_, rfl, hw, fun c7 => ?_, fun c => ?_⟩
              · have c7 := ite10.mp c7
                have e : wdO (tkK T N p) = -1 := by
                  have z1 : kyT 15 = 17 := rfl
                  have z2 : kyT 16 = 18 := rfl
                  have z3 : kyT 10 = 8 := rfl
                  have z4 : kyT 17 = 19 := rfl
                  have z5 : kyT 18 = 20 := rfl
                  have z6 : kyT 8 = 6 := rfl
                  have z7 : kyT 12 = 10 := rfl
                  unfold wdO
                  rw [if_neg (by omega), if_neg (by omega), if_neg (by omega), if_neg (by omega), if_neg (by omega), if_neg (by omega), if_neg (by omega)]
                rw [e] at H; exact H
              · rw [y _ c] at H; exact H
            · rw [y _ c] at H; exact H
          · rw [y _ c] at H; exact H
        · rw [y _ c] at H; exact H
      · rw [y _ c] at H; exact H
    · rw [y _ c] at H; exact H
  · rw [y _ c] at H; exact H
theorem c_atom_f {x : Int} (hD : 1 ≤ D) (hs : am_sc scr) (hw : wf h) (o : flK h T N M e) (H : Q none h) : am_R (am_prog scr) D f_Reader_readAtom 0 [some (.inr (.inr (((2) : Nat) : Int))), some (.inl (x)), none] [] h Q := by
  obtain ⟨D, rfl⟩ : ∃ d, D = d + 1 := ⟨D - 1, by omega⟩
  exact w_Reader_readAtom_0 hs hw (c_ok_f hs hw o ⟨_, rfl, hw, fun c => absurd rfl c, fun _ => H⟩)
theorem flK.fr {g : am_H} (o : flK h T N M e) (e3 : g.2.2.2 3 = h.2.2.2 3) (e2 : g.2.2.2 2 2 = h.2.2.2 2 2) : flK g T N M e := by
  unfold flK cuC at *
  rw [e3, e2]; exact o
/-- faulted, a sum ends -/
theorem c_sum90_f {x x2 x3 x5 : Int} {i : Nat} (hD : 6 ≤ D) (hs : am_sc scr) (hw : wf h) (t : teC h T N) (o : flK h T N M e) (hi : i < 900) (H : Q none h) : am_R (am_prog scr) D f_Reader_readSum 90 [some (.inr (.inr (((2) : Nat) : Int))), some (.inl (x)), some (.inl (x2)), some (.inl (x3)), some (.inl ((i : Int))), some (.inl (x5))] [] h Q := by
  obtain ⟨D, rfl⟩ : ∃ d, D = d + 1 := ⟨D - 1, by omega⟩
  obtain ⟨p, cu⟩ := o.1
  have s144 : ∀ a : Int, am_R (am_prog scr) (D + 1) f_Reader_readSum 144 [some (.inr (.inr (((2) : Nat) : Int))), some (.inl (x)), some (.inl (a)), some (.inl (x3)), some (.inl ((i : Int))), some (.inl (x5))] [] h Q := by
    intro a
    refine w_Reader_readSum_144 hs hw ⟨fun _ y hy => ?_, fun c => absurd rfl c⟩
    exact w_Reader_readSum_7 hs hw ⟨fun _ => H, fun _ => ⟨fun _ => H, fun c => absurd rfl c⟩⟩
  refine w_Reader_readSum_90 hs hw (c_is (j := 34) (by omega) hs hw t cu (by omega) (by omega) ⟨_, rfl, hw, fun _ => ?_, fun _ => ?_⟩)
  · refine c_is (j := 35) (by omega) hs hw t cu (by omega) (by omega) ⟨_, rfl, hw, fun _ => ?_, fun _ => ?_⟩
    · exact c_ok_f hs hw o ⟨_, rfl, hw, fun _ => s144 0, fun c => absurd rfl c⟩
    · exact c_ok_f hs hw o ⟨_, rfl, hw, fun _ => s144 (-9), fun c => absurd rfl c⟩
  · exact c_ok_f hs hw o ⟨_, rfl, hw, fun _ => s144 (-8), fun c => absurd rfl c⟩
theorem c_sum81_f {x x2 x3 x5 : Int} {i M2 : Nat} (hD : 6 ≤ D) (hs : am_sc scr) (hw : wf h) (t : teC h T N) (o : flK h T N M e) (hi : i < 900) (h1 : M ≤ M2) (h2 : x2 ≠ 0 → M + 1 ≤ M2) (H : ∀ g, wf g → fr [5] RCF h g → flK g T N M2 e → Q none g) : am_R (am_prog scr) D f_Reader_readSum 81 [some (.inr (.inr (((2) : Nat) : Int))), some (.inl (x)), some (.inl (x2)), some (.inl (x3)), some (.inl ((i : Int))), some (.inl (x5))] [] h Q := by
  obtain ⟨D, rfl⟩ : ∃ d, D = d + 1 := ⟨D - 1, by omega⟩
  refine w_Reader_readSum_81 hs hw ⟨fun _ => c_sum90_f (by omega) hs hw t o hi (H h hw fr.rfl (o.mono h1)), fun c => ?_⟩
  exact c_app_f hs hw o (fun g wg fg og => ⟨rfl, wg, c_sum90_f (by omega) hs wg (t.fr2 fg) og hi (H g wg fg (og.mono (h2 c)))⟩)
theorem c_sum_f {x : Int} (hD : 6 ≤ D) (hs : am_sc scr) (hw : wf h) (t : teC h T N) (o : flK h T N M e) (H : ∀ g, wf g → fr [5] RCF h g → flK g T N M e → Q none g) : am_R (am_prog scr) D f_Reader_readSum 0 [some (.inr (.inr (((2) : Nat) : Int))), some (.inl (x)), none, none, none, none] [] h Q := by
  obtain ⟨D, rfl⟩ : ∃ d, D = d + 1 := ⟨D - 1, by omega⟩
  refine w_Reader_readSum_0 hs hw (w_Reader_readSum_7 hs hw ⟨fun c => absurd (by decide) c, fun _ => ⟨fun c => absurd c (by decide), fun _ => ?_⟩⟩)
  refine c_atom_f (by omega) hs hw o ⟨rfl, hw, ?_⟩
  refine w_Reader_readSum_27 hs hw ⟨fun c => absurd (by decide) c, fun _ => c_ok_f hs hw o ⟨_, rfl, hw, fun _ => ?_, fun c => absurd rfl c⟩⟩
  exact c_sum81_f (i := 0) (by omega) hs hw t o (by omega) (Nat.le_refl _) (fun z => absurd rfl z) H
end RC
/-- reading one piece -/
def RcC (scr : Nat × (Nat → Int)) (T : Nat → Int) (N k D f : Nat) (lv : am_Lv) (F : Nat → PR) : Prop := ∀ (h : am_H) (Q : Option am_V → am_H → Prop) (p b s M : Nat), wf h → teC h T N → okK h T N p → h.2.2.2 2 2 = (b : Int) → b + s ≤ p → k + 2 ≤ s → 900 + 3 * k ≤ M + s → (∀ g, wf g → fr [5] RCF h g → PK T N M h g b (F p) → Q none g) → am_R (am_prog scr) D f 0 lv [] h Q
