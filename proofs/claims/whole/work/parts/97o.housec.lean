/-! a text's lines: the class; the draft -/
def RXF : List (Nat × Nat) := [(3, 0), (3, 1), (3, 2), (3, 3), (3, 4), (3, 5), (3, 6), (3, 7), (2, 2), (2, 3)]
def iniH (ser : Int) (hd j : Nat) : Int := if j = 0 then ser else if 1 ≤ j ∧ j ≤ 3 then 1 else if j = 5 then ((hd + 1 : Nat) : Int) else if j = 6 then ((hd + 2 : Nat) : Int) else am_nz 1 j
/-- where a draft lies, how much room it has taken -/
def drS (h0 g : am_H) (B : Nat) : Prop := 133 ≤ h0.1 ∧ (∀ c, c < h0.1 → g.2.2.1 c = h0.2.2.1 c) ∧ (∀ c k, c < h0.1 → c ≠ 5 → (c, k) ∉ RXF → g.2.2.2 c k = h0.2.2.2 c k) ∧ g.2.2.2 2 3 = (h0.1 : Int) ∧ g.2.2.1 h0.1 = (11, 14) ∧ g.2.2.1 (h0.1 + 1) = (1, 6) ∧ g.2.2.1 (h0.1 + 2) = (1, 6) ∧ g.2.2.2 h0.1 5 = ((h0.1 + 1 : Nat) : Int) ∧ g.2.2.2 h0.1 6 = ((h0.1 + 2 : Nat) : Int) ∧ h0.1 + 3 ≤ g.1 ∧ (g.1 ≤ h0.1 + 3 + B ∧ g.1 ≤ h0.1 + 905) ∧ g.2.1 ≤ h0.2.1 + 26 + B
def lwK (g : am_H) (hd k : Nat) (t : Int) (l : Nat × (Nat → Int) × ((Nat → Int) → Int)) : Prop := (t ≠ 1 ∧ g.2.2.2 hd k = -1) ∨ (t = 1 ∧ ∃ c : Nat, g.2.2.2 hd k = (c : Int) ∧ hd + 3 ≤ c ∧ c < g.1 ∧ g.2.2.1 c = (1, l.1) ∧ ∀ j, j < l.1 → g.2.2.2 c j = l.2.1 j)
/-- what a draft tells -/
def drD (g : am_H) (hd : Nat) (ser : Int) (ds : DS) : Prop := g.2.2.2 hd 0 = ser ∧ (g.2.2.2 hd 1 = ds.1 1 ∧ g.2.2.2 hd 2 = ds.1 2 ∧ g.2.2.2 hd 3 = ds.1 3 ∧ g.2.2.2 hd 4 = ds.1 4) ∧ (g.2.2.2 hd 7 = ds.1 12 ∧ g.2.2.2 hd 8 = ds.1 13 ∧ g.2.2.2 hd 9 = ds.1 5 ∧ g.2.2.2 hd 10 = ds.1 28 ∧ g.2.2.2 hd 11 = ds.1 0) ∧ (∀ s, s < 6 → g.2.2.2 (hd + 1) s = ds.1 (16 + s) ∧ g.2.2.2 (hd + 2) s = ds.1 (22 + s)) ∧ lwK g hd 12 (ds.1 6) (ds.2 0) ∧ lwK g hd 13 (ds.1 7) (ds.2 1)
section HC
variable {scr : Nat × (Nat → Int)} {d : Nat} {h : am_H} {Q : Option am_V → am_H → Prop} {T : Nat → Int} {N M p D B : Nat} {e : PE} {ds : DS} {h0 g : am_H}
theorem drS.fr (x : drS h0 h B) (q : fr [5] RCF h g) : drS h0 g B := by
  obtain ⟨x1, x2, x3, x4, x5, x6, x7, x8, x9, x10, x11, x12⟩ := x
  have hi : ∀ c, 133 ≤ c → g.2.2.2 c = h.2.2.2 c := fun c hc => q.c c (by simp; omega) (by intro z hz; simp only [RCF, List.mem_cons, List.not_mem_nil, or_false] at hz; rcases hz with rfl | rfl | rfl | rfl | rfl | rfl | rfl <;> simp <;> omega)
  refine ⟨x1, fun c hc => by rw [q.2.2.1]; exact x2 c hc, fun c k hc n hk => ?_, by rw [q.f 2 3 (by decide) (by decide)]; exact x4, by rw [q.2.2.1]; exact x5, by rw [q.2.2.1]; exact x6, by rw [q.2.2.1]; exact x7, by rw [hi _ x1]; exact x8, by rw [hi _ x1]; exact x9, by rw [q.1]; exact x10, by rw [q.1]; exact x11, by rw [q.2.1]; exact x12⟩
  rw [q.f c k (by simp; omega) (fun z => hk ?_)]
  · exact x3 c k hc n hk
  · have sub : ∀ z ∈ RCF, z ∈ RXF := by decide
    exact sub _ z
theorem fr.hi {L : List Nat} {F : List (Nat × Nat)} (q : fr L F h g) (hL : ∀ c ∈ L, c < 133) (hF : ∀ z ∈ F, z.1 < 133) {c : Nat} (hc : 133 ≤ c) : g.2.2.2 c = h.2.2.2 c := q.c c (fun z => by have := hL c z; omega) (fun z hz => by have := hF z hz; omega)
theorem drD.eq {hd : Nat} {ser : Int} (x : drD h hd ser ds) (hg : h.1 ≤ g.1) (hk : ∀ c, hd + 3 ≤ c → c < h.1 → g.2.2.1 c = h.2.2.1 c) (hc : ∀ c, hd ≤ c → c < h.1 → g.2.2.2 c = h.2.2.2 c) (hh : hd + 3 ≤ h.1) : drD g hd ser ds := by
  obtain ⟨x1, x2, x3, x4, x5, x6⟩ := x
  have lw : ∀ k t l, lwK h hd k t l → lwK g hd k t l := by
    intro k t l w
    rcases w with ⟨w1, w2⟩ | ⟨w1, c, w2, w3, w4, w5, w6⟩
    · exact Or.inl ⟨w1, by rw [hc hd (by omega) (by omega)]; exact w2⟩
    · exact Or.inr ⟨w1, c, by rw [hc hd (by omega) (by omega)]; exact w2, w3, by omega, by rw [hk c w3 w4]; exact w5, fun j hj => by rw [hc c (by omega) w4]; exact w6 j hj⟩
  refine ⟨?_, ?_, ?_, fun s hs => ?_, lw _ _ _ x5, lw _ _ _ x6⟩
  · rw [hc hd (by omega) (by omega)]; exact x1
  · rw [hc hd (by omega) (by omega)]; exact x2
  · rw [hc hd (by omega) (by omega)]; exact x3
  · rw [hc (hd + 1) (by omega) (by omega), hc (hd + 2) (by omega) (by omega)]; exact x4 s hs
theorem RCF_lo : ∀ z ∈ RCF, z.1 < 133 := by decide
theorem drD.fr {hd : Nat} {ser : Int} (x : drD h hd ser ds) (q : frK h g) (hd3 : 133 ≤ hd) (hh : hd + 3 ≤ h.1) : drD g hd ser ds :=
  x.eq (by rw [q.1]; omega) (fun c _ _ => by rw [q.2.2.1]) (fun c h1 _ => q.hi (by decide) RCF_lo (by omega)) hh
theorem c_wnum {lo hi : Int} (hD : 6 ≤ D) (hs : am_sc scr) (hw : wf h) (t : teC h T N) (o : okK h T N p) (hz : 0 ≤ h.2.2.2 2 2 ∧ h.2.2.2 2 2 ≤ (M : Int)) (H1 : ∀ z, nN T N p lo hi = .inr z → ∀ g, wf g → fr [5] RCF h g → okK g T N z.2 → g.2.2.2 2 2 = h.2.2.2 2 2 → Q (some (.inl (z.1))) g) (H2 : ∀ e, nN T N p lo hi = .inl e → ∀ g, wf g → fr [5] RCF h g → flK g T N M e → Q (some (.inl (lo))) g) : am_R (am_prog scr) D f_Tokens_wantNumber 0 [some (.inr (.inr (((3) : Nat) : Int))), some (.inl (lo)), some (.inl (hi)), none] [] h Q := by
  obtain ⟨D, rfl⟩ : ∃ d, D = d + 1 := ⟨D - 1, by omega⟩
  have kc := (tk_kc (N := N) (p := p) t.2.2.2.2 (j := 1) (by omega)).2.2.1
  unfold nN at H1 H2
  refine w_Tokens_wantNumber_0 hs hw ⟨fun _ => ?_, fun z => absurd o.2.1 z⟩
  rw [o.1.2.2.2.1]
  refine ⟨fun c => ?_, fun c => ?_⟩
  · have q := kc.mp c
    rw [if_pos q] at H1 H2
    rw [o.1.2.2.2.2 q]
    refine ⟨fun c2 => ?_, fun c2 => ⟨fun c3 y2 h2 => ?_, fun c3 => ?_⟩⟩
    · rw [if_neg (by omega)] at H2
      exact c_ref hs hw t o (by omega) hz (fun g wg fg og => ⟨rfl, wg, H2 _ rfl g wg fg og⟩)
    · rw [if_pos (by omega)] at H1
      subst h2
      exact c_adv (by omega) hs hw t o (fun g wg fg og e5 e2 => ⟨rfl, wg, H1 _ rfl g wg fg og e2⟩)
    · rw [if_neg (by omega)] at H2
      exact c_ref hs hw t o (by omega) hz (fun g wg fg og => ⟨rfl, wg, H2 _ rfl g wg fg og⟩)
  · rw [if_neg (fun z => c (kc.mpr z))] at H2
    exact c_ref hs hw t o (by omega) hz (fun g wg fg og => ⟨rfl, wg, H2 _ rfl g wg fg og⟩)
theorem c_wnum_f {lo hi : Int} (hD : 6 ≤ D) (hs : am_sc scr) (hw : wf h) (o : flK h T N M e) (H : Q (some (.inl (lo))) h) : am_R (am_prog scr) D f_Tokens_wantNumber 0 [some (.inr (.inr (((3) : Nat) : Int))), some (.inl (lo)), some (.inl (hi)), none] [] h Q := by
  obtain ⟨D, rfl⟩ : ∃ d, D = d + 1 := ⟨D - 1, by omega⟩
  exact w_Tokens_wantNumber_0 hs hw ⟨fun c => absurd (o.2.1.symm.trans c) o.2.2.1, fun _ => H⟩
theorem k_Hinit {k : am_H} {ser : Int} (hs : am_sc scr) (hk : h = am_mk k 11 14 (am_nz 1)) (H : ∀ g, g.1 = k.1 + 3 → g.2.1 = k.2.1 + 26 → (∀ c, g.2.2.1 c = if c = k.1 then (11, 14) else if c = k.1 + 1 ∨ c = k.1 + 2 then (1, 6) else k.2.2.1 c) → (∀ c j, g.2.2.2 c j = if c = k.1 then iniH ser k.1 j else if c = k.1 + 1 ∨ c = k.1 + 2 then 0 else k.2.2.2 c j) → Q none g) : am_R (am_prog scr) D f_House_init 0 [some (.inr (.inr ((k.1 : Nat) : Int))), some (.inl (ser))] [] h Q := by
  have hp : ∀ j, (am_prog scr).1 f_House_init j = c_House_init j := fun _ => rfl
  have iso : ∀ g : am_H, (g.2.2.1 k.1).1 = 11 → am_isO g ((k.1 : Nat) : Int) 1 := fun g hg => ⟨by omega, by rw [Int.toNat_natCast]; exact hg⟩
  have k0 : (h.2.2.1 k.1).1 = 11 := by rw [hk]; show (if k.1 = k.1 then ((11, 14) : Nat × Nat) else _).1 = 11; rw [if_pos rfl]
  refine am_R.next ((hp 0).trans rfl) rfl ?_
  refine r_drop ((hp 1).trans rfl) (iso h k0) (by decide) ?_
  refine am_R.next ((hp 4).trans rfl) rfl ?_
  refine am_R.next ((hp 5).trans rfl) rfl ?_
  refine r_putI ((hp 6).trans rfl) (iso h k0) ?_
  rw [Int.toNat_natCast]
  refine am_R.next ((hp 9).trans rfl) rfl ?_
  refine am_R.next ((hp 10).trans rfl) rfl ?_
  refine r_putI ((hp 11).trans rfl) (iso _ k0) ?_
  rw [Int.toNat_natCast]
  refine am_R.next ((hp 14).trans rfl) rfl ?_
  refine am_R.next ((hp 15).trans rfl) rfl ?_
  refine r_putI ((hp 16).trans rfl) (iso _ k0) ?_
  rw [Int.toNat_natCast]
  refine am_R.next ((hp 19).trans rfl) rfl ?_
  refine am_R.next ((hp 20).trans rfl) rfl ?_
  refine r_newa ((hp 22).trans rfl) (by decide) ?_
  have h1 : h.1 = k.1 + 1 := by rw [hk]; rfl
  have s1 : h.2.1 = k.2.1 + 14 := by rw [hk]; rfl
  have kk1 : ∀ c, h.2.2.1 c = if c = k.1 then (11, 14) else k.2.2.1 c := fun c => by rw [hk]; rfl
  have cc1 : ∀ c j, h.2.2.2 c j = if c = k.1 then am_nz 1 j else k.2.2.2 c j := fun c j => by rw [hk]; rfl
  obtain ⟨g1, e1⟩ : ∃ z : am_H, z = am_mk (am_put (am_put (am_put h k.1 1 1) k.1 2 1) k.1 3 1) 1 (6 : Int).toNat (fun _ => 0) := ⟨_, rfl⟩
  rw [← e1]
  have a1 : g1.1 = k.1 + 2 := by rw [e1]; show h.1 + 1 = _; omega
  have b1 : g1.2.1 = k.2.1 + 20 := by rw [e1]; show h.2.1 + 6 = _; omega
  have d1 : ∀ c, g1.2.2.1 c = if c = h.1 then (1, 6) else h.2.2.1 c := fun c => by rw [e1]; rfl
  have f1 : ∀ c j, g1.2.2.2 c j = if c = h.1 then 0 else if c = k.1 ∧ j = 3 then 1 else if c = k.1 ∧ j = 2 then 1 else if c = k.1 ∧ j = 1 then 1 else h.2.2.2 c j := fun c j => by rw [e1]; rfl
  have i1 : (g1.2.2.1 k.1).1 = 11 := by rw [d1, if_neg (by omega)]; exact k0
  refine r_putR ((hp 24).trans rfl) (iso g1 i1) (by show (-1 : Int) ≤ ((h.1 : Nat) : Int); omega) ?_
  rw [Int.toNat_natCast]
  refine am_R.next ((hp 27).trans rfl) rfl ?_
  refine am_R.next ((hp 28).trans rfl) rfl ?_
  refine r_newa ((hp 30).trans rfl) (by decide) ?_
  obtain ⟨g2, e2⟩ : ∃ z : am_H, z = am_mk (am_put g1 k.1 5 ((h.1 : Nat) : Int)) 1 (6 : Int).toNat (fun _ => 0) := ⟨_, rfl⟩
  change am_R _ _ _ _ _ _ (am_mk (am_put g1 k.1 5 ((h.1 : Nat) : Int)) 1 (6 : Int).toNat (fun _ => 0)) _
  rw [← e2]
  have a2 : g2.1 = k.1 + 3 := by rw [e2]; show g1.1 + 1 = _; omega
  have b2 : g2.2.1 = k.2.1 + 26 := by rw [e2]; show g1.2.1 + 6 = _; omega
  have d2 : ∀ c, g2.2.2.1 c = if c = g1.1 then (1, 6) else g1.2.2.1 c := fun c => by rw [e2]; rfl
  have f2 : ∀ c j, g2.2.2.2 c j = if c = g1.1 then 0 else if c = k.1 ∧ j = 5 then ((h.1 : Nat) : Int) else g1.2.2.2 c j := fun c j => by rw [e2]; rfl
  have i2 : (g2.2.2.1 k.1).1 = 11 := by rw [d2, if_neg (by omega)]; exact i1
  refine r_putR ((hp 32).trans rfl) (iso g2 i2) (by show (-1 : Int) ≤ ((g1.1 : Nat) : Int); omega) ?_
  rw [Int.toNat_natCast]
  refine am_R.next ((hp 35).trans rfl) rfl ?_
  refine am_R.next ((hp 36).trans rfl) rfl ?_
  refine r_putI ((hp 37).trans rfl) (iso _ i2) ?_
  rw [Int.toNat_natCast]
  refine am_R.ret ((hp 40).trans rfl) rfl ?_
  obtain ⟨g3, e3⟩ : ∃ z : am_H, z = am_put (am_put g2 k.1 6 ((g1.1 : Nat) : Int)) k.1 0 ser := ⟨_, rfl⟩
  change Q none (am_put (am_put g2 k.1 6 ((g1.1 : Nat) : Int)) k.1 0 ser)
  rw [← e3]
  refine H g3 (by rw [e3]; exact a2) (by rw [e3]; exact b2) (fun c => ?_) (fun c j => ?_)
  · have : g3.2.2.1 c = g2.2.2.1 c := by rw [e3]; rfl
    rw [this, d2, d1, kk1, a1, h1]
    by_cases c0 : c = k.1
    · rw [if_neg (by omega), if_neg (by omega), if_pos c0, if_pos c0]
    · by_cases c1 : c = k.1 + 1
      · rw [if_neg (by omega), if_pos c1, if_neg c0, if_pos (Or.inl c1)]
      · by_cases c2 : c = k.1 + 2
        · rw [if_pos c2, if_neg c0, if_pos (Or.inr c2)]
        · rw [if_neg c2, if_neg c1, if_neg c0, if_neg c0, if_neg (by omega)]
  · have : g3.2.2.2 c j = if c = k.1 ∧ j = 0 then ser else if c = k.1 ∧ j = 6 then ((g1.1 : Nat) : Int) else g2.2.2.2 c j := by rw [e3]; rfl
    rw [this, f2, f1, cc1, a1, h1]
    by_cases c0 : c = k.1
    · rw [if_pos c0, if_neg (show ¬ c = k.1 + 2 by omega), if_neg (show ¬ c = k.1 + 1 by omega), if_pos c0]
      unfold iniH
      by_cases j0 : j = 0
      · rw [if_pos ⟨c0, j0⟩, if_pos j0]
      · rw [if_neg (fun z => j0 z.2), if_neg j0]
        by_cases j6 : j = 6
        · rw [if_pos ⟨c0, j6⟩, if_neg (by omega), if_neg (by omega), if_pos j6]
        · rw [if_neg (fun z => j6 z.2)]
          by_cases j5 : j = 5
          · rw [if_pos ⟨c0, j5⟩, if_neg (by omega), if_pos j5]
          · rw [if_neg (fun z => j5 z.2)]
            by_cases j3 : j = 3
            · rw [if_pos ⟨c0, j3⟩, if_pos (by omega)]
            · rw [if_neg (fun z => j3 z.2)]
              by_cases j2 : j = 2
              · rw [if_pos ⟨c0, j2⟩, if_pos (by omega)]
              · rw [if_neg (fun z => j2 z.2)]
                by_cases j1 : j = 1
                · rw [if_pos ⟨c0, j1⟩, if_pos (by omega)]
                · rw [if_neg (fun z => j1 z.2), if_neg (by omega), if_neg j5, if_neg j6]
    · have n : ∀ x, ¬ (c = k.1 ∧ j = x) := fun x z => c0 z.1
      rw [if_neg (n 0), if_neg (n 6), if_neg (n 5), if_neg (n 3), if_neg (n 2), if_neg (n 1), if_neg c0, if_neg c0]
      by_cases c1 : c = k.1 + 1
      · rw [if_neg (by omega), if_pos c1, if_pos (Or.inl c1)]
      · by_cases c2 : c = k.1 + 2
        · rw [if_pos c2, if_pos (Or.inr c2)]
        · rw [if_neg c2, if_neg c1, if_neg (by omega)]
end HC
