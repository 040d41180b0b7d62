/-! what was heard: the class -/
def mA (a : Nat → Int) (f : Nat → (Nat → Int) → Int) (num : Nat → Int) : Nat → Int → Prop
  | 0, s => s = stA a
  | j + 1, s => ∃ (st : Int) (e : Nat), mA a f num j st ∧ ¬ ovT a st ∧ (e : Int) ≤ a 4 ∧ s = Tr a f st (e : Int) ∧ hdB num j s = true
theorem lsT_ge {p : Nat → Bool} : ∀ (k e : Nat), e ≤ lsT p k e := by
  intro k
  induction k with
  | zero => intro e; exact Nat.le_refl _
  | succ k ih =>
    intro e
    simp only [lsT]
    split
    · exact Nat.le_refl _
    · have := ih (e + 1); omega
def HL : List Nat := [46, 48, 49, 50, 51, 52, 53, 54, 55, 56]
theorem c48 {j : Nat} (hj : j < 9) : 48 + j ∉ wr_o ∧ 48 + j ∈ HL ∧ 48 + j ∈ [48, 49, 50, 51, 52, 53, 54, 55, 56] := by
  have : ∀ j, j < 9 → 48 + j ∉ wr_o ∧ 48 + j ∈ HL ∧ 48 + j ∈ [48, 49, 50, 51, 52, 53, 54, 55, 56] := by decide +kernel
  exact this j hj
section HC
variable {a : Nat → Int} {f : Nat → (Nat → Int) → Int} {num : Nat → Int} {n : Nat} {B : Int}
theorem mA_r : ∀ {j : Nat} {s : Int}, mA a f num j s → Rch a f s := by
  intro j
  induction j with
  | zero => rintro s e; have e : s = stA a := e; rw [e]; exact Rch.zero
  | succ j ih =>
    rintro s ⟨st, e, h1, h2, h3, h4, h5⟩
    rw [h4]
    exact (ih h1).step h2 ⟨by omega, h3⟩
theorem mA_inj (r : rok a f B) {j : Nat} {s s' : Int} (h : mA a f num j s) (h' : mA a f num j s') (e : nodeS s = nodeS s') : s = s' := by
  cases j with
  | zero =>
    have h : s = stA a := h
    have h' : s' = stA a := h'
    rw [h, h']
  | succ j =>
    have b := ((mA_r h).ok r).1
    have b' := ((mA_r h').ok r).1
    obtain ⟨_, _, _, _, _, _, h5⟩ := h
    obtain ⟨_, _, _, _, _, _, h5'⟩ := h'
    have n1 := nodeS_e b (hdB_t.mp h5).1
    have n2 := nodeS_e b' (hdB_t.mp h5').1
    rw [← n1.2.1, ← n2.2.1, e]
theorem mA_mt (r : rok a f B) : ∀ {j : Nat} {s : Int}, j ≤ n → (mtP a f num n j s ↔ (mA a f num j s ∧ 0 < hN a f num n (n - j) s)) := by
  intro j
  induction j with
  | zero =>
    intro s hj
    simp only [mtP, mA, Nat.sub_zero]
    constructor
    · rintro ⟨e, h⟩; exact ⟨e, by rw [e]; exact h⟩
    · rintro ⟨e, h⟩; exact ⟨e, by rw [← e]; exact h⟩
  | succ j ih =>
    intro s hj
    constructor
    · rintro ⟨st, e, h1, h2, h3, h4, h5, h6⟩
      exact ⟨⟨st, e, ((ih (by omega)).mp h1).1, h2, h3, h4, h5⟩, h6⟩
    · rintro ⟨⟨st, e, h1, h2, h3, h4, h5⟩, h6⟩
      refine ⟨st, e, (ih (by omega)).mpr ⟨h1, ?_⟩, h2, h3, h4, h5, h6⟩
      rw [h4] at h5 h6
      have := hN_up (num := num) (n := n) (m := n - (j + 1)) r h2 h3 (by rw [show n - (n - (j + 1) + 1) = j by omega]; exact h5) h6
      rw [show n - (j + 1) + 1 = n - j by omega] at this
      exact this
end HC
section HD
variable {scr : Nat × (Nat → Int)} {d : Nat} {h : am_H} {Q : Option am_V → am_H → Prop} {W : Wd} {ser : Nat} {a : Nat → Int} {f : Nat → (Nat → Int) → Int} {B : Int} {num : Nat → Int} {n t1 : Nat}
theorem k_fits {s : Int} {j : Nat} (hs : am_sc scr) (hw : wf h) (so : stOk a s) (H : Q (some (.inl (if hdB num j s = true then 1 else 0))) h) : am_R (am_prog scr) (d + 1) f_Tally_fits 0 [some (.inr (.inr (((43) : Nat) : Int))), some (.inl (nodeS s)), some (.inr (.inl (num j))), none] [] h Q := by
  have nb := node_b so.1
  refine w_Tally_fits_0 hs hw ?_
  refine k_gStill hs hw ⟨_, rfl, hw, fun c => ?_, fun c => ?_⟩
  · have c1 : ¬ nodeS s < 180 := fun q => c (by rw [if_pos q])
    have od : s % 2 = 1 := by
      apply Decidable.byContradiction; intro z; have := nodeS_e so.1 z; omega
    rw [if_neg (fun z => (hdB_t.mp z).1 od)] at H
    exact H
  · have c1 : nodeS s < 180 := by
      apply Decidable.byContradiction; intro q; rw [if_neg q] at c; omega
    have ev : ¬ s % 2 = 1 := fun z => by have := nodeS_o so.1 z; omega
    have ne := nodeS_e so.1 ev
    refine ⟨fun c2 => ?_, fun c2 => ?_⟩
    · rw [if_pos (hdB_t.mpr ⟨ev, Or.inl c2⟩)] at H; exact H
    · refine k_gSound hs hw (by omega) ⟨_, rfl, hw, fun c3 => ?_, fun c3 => ?_⟩
      · rw [if_neg (fun z => by have := (hdB_t.mp z).2; omega)] at H; exact H
      · rw [if_pos (hdB_t.mpr ⟨ev, Or.inr (by omega)⟩)] at H; exact H
/-- nodes met -/
def mbI (g : am_H) (S : Nat → Nat → Prop) : Prop := ∀ k, k < 185 → isBits (g.2.2.2 46 k) 9 (S k)
theorem k_isMet {S : Nat → Nat → Prop} {k j : Nat} (hs : am_sc scr) (hw : wf h) (m : mbI h S) (hk : k < 185) (hj : j < 9) (H1 : S k j → Q (some (.inl (1))) h) (H0 : ¬ S k j → Q (some (.inl (0))) h) : am_R (am_prog scr) d f_Tally_isMet 0 [some (.inr (.inr (((43) : Nat) : Int))), some (.inl ((k : Int))), some (.inl ((j : Int)))] [] h Q := by
  have b := m k hk
  have z3 : ((2 ^ 9 : Nat) : Int) = 512 := by decide
  have b2 := b.2.1
  refine w_Tally_isMet_0 hs hw ⟨by omega, ?_⟩
  rw [Int.toNat_natCast, bit32 ⟨b.1, by omega⟩ (by omega), Int.toNat_natCast]
  refine ⟨fun c => H0 (fun q => ?_), fun c => H1 ?_⟩
  · rw [if_pos ((b.2.2 j hj).mpr q)] at c; omega
  · refine (b.2.2 j hj).mp ?_
    apply Decidable.byContradiction; intro q; rw [if_neg q] at c; omega
/-- what a deed's beat from st adds -/
def adS (a : Nat → Int) (f : Nat → (Nat → Int) → Int) (num : Nat → Int) (S : Nat → Nat → Prop) (j : Nat) (st : Int) (e : Nat) (k b : Nat) : Prop := S k b ∨ (b = j + 1 ∧ ∃ e' : Nat, e' < e ∧ (e' : Int) ≤ a 4 ∧ (k : Int) = nodeS (Tr a f st (e' : Int)) ∧ hdB num j (Tr a f st (e' : Int)) = true)
theorem k_meet {S : Nat → Nat → Prop} {st : Int} {j : Nat} (hs : am_sc scr) (r : rok a f B) (hr : Rch a f st) (ho : ¬ ovT a st) (hj : j < 8) : ∀ (m e : Nat) (h : am_H), e + m = 8 → wf h → grP h a f → mbI h (adS a f num S j st e) → (∀ g, wf g → fr [46] [] h g → mbI g (adS a f num S j st 8) → Q none g) → am_R (am_prog scr) (d + 2) f_Tally_meetFrom 3 [some (.inr (.inr (((43) : Nat) : Int))), some (.inl (nodeS st)), some (.inl ((j : Int))), some (.inr (.inl (num j))), none, some (.inl ((e : Int))), none] [] h Q := by
  have h4 := r.1.1
  have so := hr.ok r
  intro m
  induction m with
  | zero =>
    intro e h he hw x y H
    refine w_Tally_meetFrom_3 hs hw ?_
    refine k_gSleepers hs hw x.1 ⟨_, rfl, hw, fun _ => ?_, fun c => by omega⟩
    rw [show e = 8 by omega] at y
    exact H h hw fr.rfl y
  | succ m ih =>
    intro e h he hw x y H
    refine w_Tally_meetFrom_3 hs hw ?_
    refine k_gSleepers hs hw x.1 ⟨_, rfl, hw, fun c => ?_, fun c => ?_⟩
    · refine H h hw fr.rfl (fun k hk => (y k hk).same (fun b hb => ?_))
      constructor
      · rintro (q | ⟨q, e', e1, e2⟩)
        · exact Or.inl q
        · exact Or.inr ⟨q, e', by omega, e2⟩
      · rintro (q | ⟨q, e', e1, e2⟩)
        · exact Or.inl q
        · exact Or.inr ⟨q, e', by omega, e2⟩
    · refine k_after hs hw x.2.2 r so ho (x.2.1.known r hr ho) (by omega) ⟨_, rfl, hw, ?_⟩
      have tr := hr.step (e := (e : Int)) ho ⟨by omega, by omega⟩
      have to := tr.ok r
      have nb := node_b to.1
      refine k_fits (num := num) (j := j) hs hw to ⟨_, rfl, hw, fun c1 q hq => ?_, fun c1 => ⟨nb, nb, fun h10 e10 q hq => ?_⟩⟩
      · rw [i0] at c1
        rw [am_w_id (by omega) (by omega)] at hq
        obtain rfl : q = ((e + 1 : Nat) : Int) := by omega
        refine ih (e + 1) h (by omega) hw x (fun k hk => (y k hk).same (fun b hb => ?_)) H
        constructor
        · rintro (q | ⟨q, e', e1, e2, e3, e4⟩)
          · exact Or.inl q
          · have : e' ≠ e := fun z => c1 (by rw [← z]; exact e4)
            exact Or.inr ⟨q, e', by omega, e2, e3, e4⟩
        · rintro (q | ⟨q, e', e1, e2⟩)
          · exact Or.inl q
          · exact Or.inr ⟨q, e', by omega, e2⟩
      · rw [i0, Decidable.not_not] at c1
        rw [am_w_id (by omega) (by omega)] at hq
        obtain rfl : q = ((e + 1 : Nat) : Int) := by omega
        rw [am_w_id (by omega) (by omega)] at e10
        have f10 : fr [46] [] h h10 := by rw [e10]; exact fr.rfl.put (Or.inl (by decide))
        refine ih (e + 1) h10 (by omega) (by rw [e10]; exact hw.pa (by decide +kernel)) (x.fr f10 (by decide) (by simp)) (fun k hk => ?_) (fun g wg fg yg => H g wg (f10.trans fg) yg)
        have c46 : h10.2.2.2 46 k = if k = (nodeS (Tr a f st (e : Int))).toNat then am_or (h.2.2.2 46 (nodeS (Tr a f st (e : Int))).toNat) (am_shl 1 ((j : Int) + 1)) else h.2.2.2 46 k := by
          rw [e10]; simp only [put_at, true_and]
        rw [c46]
        by_cases q : k = (nodeS (Tr a f st (e : Int))).toNat
        · rw [if_pos q, ← q]
          refine (y k hk).or (by omega) (by omega) (fun b hb => ?_)
          constructor
          · rintro (q2 | ⟨q2, e', e1, e2, e3, e4⟩)
            · exact Or.inl (Or.inl q2)
            · by_cases z : e' = e
              · exact Or.inr (by omega)
              · exact Or.inl (Or.inr ⟨q2, e', by omega, e2, e3, e4⟩)
          · rintro ((q2 | ⟨q2, e', e1, e2⟩) | q2)
            · exact Or.inl q2
            · exact Or.inr ⟨q2, e', by omega, e2⟩
            · exact Or.inr ⟨by omega, e, by omega, by omega, by omega, c1⟩
        · rw [if_neg q]
          refine (y k hk).same (fun b hb => ?_)
          constructor
          · rintro (q2 | ⟨q2, e', e1, e2, e3, e4⟩)
            · exact Or.inl q2
            · have : e' ≠ e := fun z => q (by rw [z] at e3; omega)
              exact Or.inr ⟨q2, e', by omega, e2, e3, e4⟩
          · rintro (q2 | ⟨q2, e', e1, e2⟩)
            · exact Or.inl q2
            · exact Or.inr ⟨q2, e', by omega, e2⟩
/-- met, up to beat j; and of beat j + 1 what comes from nodes before k -/
def msS (a : Nat → Int) (f : Nat → (Nat → Int) → Int) (num : Nat → Int) (j k0 k b : Nat) : Prop := (b ≤ j ∧ ∃ st, mA a f num b st ∧ nodeS st = (k : Int)) ∨ (b = j + 1 ∧ ∃ (st : Int) (e : Nat), mA a f num j st ∧ nodeS st < (k0 : Int) ∧ ¬ ovT a st ∧ (e : Int) ≤ a 4 ∧ nodeS (Tr a f st (e : Int)) = (k : Int) ∧ hdB num j (Tr a f st (e : Int)) = true)
theorem k_listen_39 {j : Nat} (hs : am_sc scr) (r : rok a f B) (ht : t1 ∈ TR) (hj : j < n) (hn : n ≤ 8) : ∀ (m k : Nat) (h : am_H), k + m = 180 → wf h → grP h a f → trC h t1 n num → mbI h (msS a f num j k) → (∀ g, wf g → fr [46] [] h g → mbI g (msS a f num (j + 1) 0) → ∀ y, y = am_w ((j : Int) + 1) → am_R (am_prog scr) (d + 3) f_Tally_listen 23 [some (.inr (.inr (((43) : Nat) : Int))), some (.inr (.inr (((t1) : Nat) : Int))), some (.inl (y)), none] [] g Q) → am_R (am_prog scr) (d + 3) f_Tally_listen 39 [some (.inr (.inr (((43) : Nat) : Int))), some (.inr (.inr (((t1) : Nat) : Int))), some (.inl ((j : Int))), some (.inl ((k : Int)))] [] h Q := by
  have h4 := r.1.1
  have t95 : 95 ≤ t1 := by
    have : ∀ t ∈ TR, 95 ≤ t := by decide
    exact this t1 ht
  intro m
  induction m with
  | zero =>
    intro k h hk hw x tc y H
    refine w_Tally_listen_39 ht hs hw ⟨fun _ => H h hw fr.rfl (fun q hq => (y q hq).same (fun b hb => ?_)), fun c => by omega⟩
    constructor
    · rintro (⟨b1, st, s1, s2⟩ | ⟨b1, st, e, s1, s2, s3⟩)
      · by_cases z : b = j + 1
        · subst z
          obtain ⟨st', e, m1, m2, m3, m4, m5⟩ := s1
          have nb := on_144 r ((mA_r m1).ok r) m2
          rw [m4] at s2 m5
          exact Or.inr ⟨rfl, st', e, m1, by omega, m2, m3, s2, m5⟩
        · exact Or.inl ⟨by omega, st, s1, s2⟩
      · have := (node_b ((mA_r s1).ok r).1).1; omega
    · rintro (⟨b1, st, s1, s2⟩ | ⟨b1, st, e, s1, s2, s3, s4, s5, s6⟩)
      · exact Or.inl ⟨by omega, st, s1, s2⟩
      · exact Or.inl ⟨by omega, Tr a f st (e : Int), by rw [b1]; exact ⟨st, e, s1, s3, s4, rfl, s6⟩, s5⟩
  | succ m ih =>
    intro k h hk hw x tc y H
    have skip : (∀ st, mA a f num j st → nodeS st = (k : Int) → ovT a st) → ∀ q, q = am_w ((k : Int) + 1) → am_R (am_prog scr) (d + 3) f_Tally_listen 39 [some (.inr (.inr (((43) : Nat) : Int))), some (.inr (.inr (((t1) : Nat) : Int))), some (.inl ((j : Int))), some (.inl (q))] [] h Q := by
      intro c q hq
      rw [am_w_id (by omega) (by omega)] at hq
      obtain rfl : q = ((k + 1 : Nat) : Int) := by omega
      refine ih (k + 1) h (by omega) hw x tc (fun q hq => (y q hq).same (fun b hb => ?_)) H
      constructor
      · rintro (q | ⟨q, st, e, s1, s2, s3, s4⟩)
        · exact Or.inl q
        · have : nodeS st ≠ (k : Int) := fun z => s3 (c st s1 z)
          exact Or.inr ⟨q, st, e, s1, by omega, s3, s4⟩
      · rintro (q | ⟨q, st, e, s1, s2, s3⟩)
        · exact Or.inl q
        · exact Or.inr ⟨q, st, e, s1, by omega, s3⟩
    refine w_Tally_listen_39 ht hs hw ⟨fun c => by omega, fun _ => ?_⟩
    refine k_isMet hs hw y (by omega) (by omega) (fun c => ⟨_, rfl, hw, fun q => by omega, fun _ => ?_⟩) (fun c => ⟨_, rfl, hw, fun _ => skip (fun st s1 s2 => absurd (Or.inl ⟨by omega, st, s1, s2⟩) c), fun q => absurd rfl q⟩)
    rcases c with ⟨_, st, s1, s2⟩ | ⟨q, _⟩
    · have hr := mA_r s1
      have so := hr.ok r
      rw [← s2]
      refine k_gOn hs hw x.1 so ⟨_, rfl, hw, fun c2 => ?_, fun c2 => ⟨by omega, ?_⟩⟩
      · have ov : ovT a st := by
          apply Decidable.byContradiction; intro q; rw [if_neg q] at c2; omega
        rw [s2]
        exact skip (fun st' z1 z2 => by rw [mA_inj r z1 s1 (by omega)]; exact ov)
      · have no : ¬ ovT a st := by
          intro q; rw [if_pos q] at c2; omega
        rw [Int.toNat_natCast, tc.2.2 j hj]
        refine w_Tally_meetFrom_0 hs hw ?_
        refine k_meet (S := msS a f num j k) hs r hr no (by omega) 8 0 h rfl hw x (fun q hq => (y q hq).same (fun b hb => ?_)) (fun g wg fg yg => ⟨rfl, wg, fun q hq => ?_⟩)
        · constructor
          · rintro (q | ⟨_, e', e1, _⟩)
            · exact q
            · omega
          · intro q; exact Or.inl q
        · rw [am_w_id (by omega) (by omega)] at hq
          obtain rfl : q = ((k + 1 : Nat) : Int) := by omega
          refine ih (k + 1) g (by omega) wg (x.fr fg (by decide) (by simp)) (tc.fr fg (by simp; omega) (by simp)) (fun q hq => (yg q hq).same (fun b hb => ?_)) (fun g2 w2 f2 y2 => H g2 w2 (fg.trans f2) y2)
          constructor
          · rintro (q | ⟨q, st', e, z1, z2, z3, z4, z5, z6⟩)
            · exact Or.inl (Or.inl q)
            · by_cases z : nodeS st' = (k : Int)
              · have := mA_inj r z1 s1 (by omega)
                subst this
                exact Or.inr ⟨q, e, by omega, z4, z5.symm, z6⟩
              · exact Or.inl (Or.inr ⟨q, st', e, z1, by omega, z3, z4, z5, z6⟩)
          · rintro ((q | ⟨q, st', e, z1, z2, z3⟩) | ⟨q, e', e1, e2, e3, e4⟩)
            · exact Or.inl q
            · exact Or.inr ⟨q, st', e, z1, by omega, z3⟩
            · exact Or.inr ⟨q, st, e', s1, by omega, no, e2, e3.symm, e4⟩
    · omega
/-- how many rows fit, at each node met -/
def fiP (h : am_H) (a : Nat → Int) (f : Nat → (Nat → Int) → Int) (num : Nat → Int) (n j : Nat) : Prop := ∀ st, mA a f num j st → h.2.2.2 (48 + j) (nodeS st).toNat = hN a f num n (n - j) st
theorem k_behind {st : Int} {j e : Nat} (hs : am_sc scr) (hw : wf h) (r : rok a f B) (m : mA a f num j st) (ho : ¬ ovT a st) (he : (e : Int) ≤ a 4) (hj : j < 8) (y : fiP h a f num n (j + 1)) (H : Q (some (.inr (.inl (if hdB num j (Tr a f st (e : Int)) = true then hN a f num n (n - (j + 1)) (Tr a f st (e : Int)) else 0)))) h) : am_R (am_prog scr) (d + 2) f_Tally_fittingBehind 0 [some (.inr (.inr (((43) : Nat) : Int))), some (.inl (nodeS (Tr a f st (e : Int)))), some (.inl ((j : Int))), some (.inr (.inl (num j))), none] [] h Q := by
  have so := Tr_ok r (deed := (e : Int)) ((mA_r m).ok r) ho
  have nb := node_b so.1
  refine w_Tally_fittingBehind_0 hs hw ?_
  refine k_fits (num := num) (j := j) hs hw so ⟨_, rfl, hw, fun c => ?_, fun c => ?_⟩
  · rw [i0] at c; rw [if_neg c] at H; exact H
  · rw [i0, Decidable.not_not] at c
    rw [if_pos c] at H
    rw [am_w_id (x := (j : Int) + 1) (by omega) (by omega)]
    refine ⟨by omega, nb, ?_⟩
    have := y (Tr a f st (e : Int)) ⟨st, e, m, ho, he, rfl, c⟩
    rw [show 48 + ((j : Int) + 1).toNat = 48 + (j + 1) by omega, this]
    exact H
theorem k_fitFrom {st : Int} {j : Nat} (hs : am_sc scr) (hw : wf h) (x : grP h a f) (r : rok a f B) (m : mA a f num j st) (hj : j < n) (hn : n ≤ 8) (y : fiP h a f num n (j + 1)) (H : Q (some (.inr (.inl (hN a f num n (n - j) st)))) h) : am_R (am_prog scr) (d + 3) f_Tally_fittingFrom 0 [some (.inr (.inr (((43) : Nat) : Int))), some (.inl (nodeS st)), some (.inl ((j : Int))), some (.inr (.inl (num j))), none, none, none, none] [] h Q := by
  have h4 := r.1.1
  have hr := mA_r m
  have so := hr.ok r
  rw [show n - j = n - (j + 1) + 1 by omega] at H
  simp only [hN] at H
  rw [show n - (n - (j + 1) + 1) = j by omega] at H
  refine w_Tally_fittingFrom_0 hs hw ?_
  by_cases ov : ovT a st
  · rw [if_pos ov] at H
    refine w_Tally_fittingFrom_6 hs hw ?_
    refine k_gOn hs hw x.1 so ⟨_, rfl, hw, fun c => H, fun c => ?_⟩
    rw [if_pos ov] at c; exact absurd rfl c
  have lp : ∀ (p e : Nat), e + p = 8 → (e : Int) ≤ a 4 + 1 → am_R (am_prog scr) (d + 3) f_Tally_fittingFrom 6 [some (.inr (.inr (((43) : Nat) : Int))), some (.inl (nodeS st)), some (.inl ((j : Int))), some (.inr (.inl (num j))), none, some (.inr (.inl (sumZ (fun e => if hdB num j (Tr a f st (e : Int)) = true then hN a f num n (n - (j + 1)) (Tr a f st (e : Int)) else 0) e))), none, some (.inl ((e : Int)))] [] h Q := by
    intro p
    induction p with
    | zero => intro e he h1; omega
    | succ p ih =>
      intro e he h1
      refine w_Tally_fittingFrom_6 hs hw ?_
      refine k_gOn hs hw x.1 so ⟨_, rfl, hw, fun c => ?_, fun c => ?_⟩
      · rw [if_neg ov] at c; omega
      · have no : ¬ ovT a st := ov
        rw [if_neg no] at H
        refine k_gSleepers hs hw x.1 ⟨_, rfl, hw, fun c2 => ?_, fun c2 => ?_⟩
        · rw [show (a 4 + 1).toNat = e by omega] at H
          exact H
        · refine k_after hs hw x.2.2 r so no (x.2.1.known r hr no) (by omega) ⟨_, rfl, hw, ?_⟩
          refine k_behind (n := n) hs hw r m no (by omega) (by omega) y ⟨_, rfl, hw, fun y9 h9 y10 h10 => ?_⟩
          have su : ∀ e : Nat, e ≤ 8 → 0 ≤ sumZ (fun e => if hdB num j (Tr a f st (e : Int)) = true then hN a f num n (n - (j + 1)) (Tr a f st (e : Int)) else 0) e ∧ sumZ (fun e => if hdB num j (Tr a f st (e : Int)) = true then hN a f num n (n - (j + 1)) (Tr a f st (e : Int)) else 0) e ≤ (e : Int) * 5764801 := by
            intro e
            induction e with
            | zero => intro _; simp [sumZ]
            | succ e ihe =>
              intro h
              have := ihe (by omega)
              have hb := hN_8 (num := num) (n := n) (m := n - (j + 1)) r (by omega) (Tr a f st (e : Int))
              rw [sumZ_succ]
              split <;> omega
          have s0 := su (e + 1) (by omega)
          rw [sumZ_succ] at s0
          rw [am_W_id (by omega) (by omega)] at h9
          rw [am_w_id (by omega) (by omega)] at h10
          obtain rfl : y10 = ((e + 1 : Nat) : Int) := by omega
          have nxt := ih (e + 1) (by omega) (by omega)
          rw [sumZ_succ] at nxt
          rw [h9]
          exact nxt
  exact lp 8 0 rfl (by omega)
theorem k_listen_106 {j : Nat} (hs : am_sc scr) (r : rok a f B) (ht : t1 ∈ TR) (hj : j ≤ n) (hn : n ≤ 8) : ∀ (m k : Nat) (h : am_H), k + m = 185 → wf h → grP h a f → trC h t1 n num → mbI h (msS a f num n 0) → (∀ i, j < i → i ≤ n → fiP h a f num n i) → (∀ st, mA a f num j st → nodeS st < (k : Int) → h.2.2.2 (48 + j) (nodeS st).toNat = hN a f num n (n - j) st) → (∀ g, wf g → fr [48, 49, 50, 51, 52, 53, 54, 55, 56] [] h g → (∀ i, j ≤ i → i ≤ n → fiP g a f num n i) → ∀ y, y = am_w ((j : Int) + (-1)) → am_R (am_prog scr) (d + 4) f_Tally_listen 100 [some (.inr (.inr (((43) : Nat) : Int))), some (.inr (.inr (((t1) : Nat) : Int))), some (.inl (y)), none] [] g Q) → am_R (am_prog scr) (d + 4) f_Tally_listen 106 [some (.inr (.inr (((43) : Nat) : Int))), some (.inr (.inr (((t1) : Nat) : Int))), some (.inl ((j : Int))), some (.inl ((k : Int)))] [] h Q := by
  have h4 := r.1.1
  have t95 : 95 ≤ t1 := by
    have : ∀ t ∈ TR, 95 ≤ t := by decide
    exact this t1 ht
  have c4 := c48 (j := j) (by omega)
  intro m
  induction m with
  | zero =>
    intro k h hk hw x tc mb fi dn H
    refine w_Tally_listen_106 ht hs hw ⟨fun _ => H h hw fr.rfl (fun i h1 h2 => ?_), fun c => by omega⟩
    by_cases q : i = j
    · subst q
      intro st ms
      have nb := node_b ((mA_r ms).ok r).1
      exact dn st ms (by omega)
    · exact fi i (by omega) h2
  | succ m ih =>
    intro k h hk hw x tc mb fi dn H
    refine w_Tally_listen_106 ht hs hw ⟨fun c => by omega, fun _ => ?_⟩
    -- a node with its number
    have put : ∀ (v : Int) (g : am_H), g = am_put h (48 + j) k v → (∀ st, mA a f num j st → nodeS st = (k : Int) → v = hN a f num n (n - j) st) → ∀ q, q = am_w ((k : Int) + 1) → am_R (am_prog scr) (d + 4) f_Tally_listen 106 [some (.inr (.inr (((43) : Nat) : Int))), some (.inr (.inr (((t1) : Nat) : Int))), some (.inl ((j : Int))), some (.inl (q))] [] g Q := by
      intro v g eg hv q hq
      rw [am_w_id (by omega) (by omega)] at hq
      obtain rfl : q = ((k + 1 : Nat) : Int) := by omega
      have fg : fr [48, 49, 50, 51, 52, 53, 54, 55, 56] [] h g := by rw [eg]; exact fr.rfl.put (Or.inl c4.2.2)
      have cc : ∀ c i, g.2.2.2 c i = if c = 48 + j ∧ i = k then v else h.2.2.2 c i := by intro c i; rw [eg]; simp only [put_at]
      refine ih (k + 1) g (by omega) (by rw [eg]; exact hw.pa c4.1) (x.fr fg (by decide) (by simp)) (tc.fr fg (by simp; omega) (by simp)) (fun q hq => by rw [fg.c 46 (by decide) (by simp)]; exact mb q hq) (fun i h1 h2 st ms => ?_) (fun st ms hl => ?_) (fun g2 w2 f2 y2 => H g2 w2 (fg.trans f2) y2)
      · rw [cc, if_neg (by omega)]; exact fi i h1 h2 st ms
      · have nb := node_b ((mA_r ms).ok r).1
        rw [cc]
        by_cases q : nodeS st = (k : Int)
        · rw [if_pos ⟨rfl, by omega⟩]; exact hv st ms q
        · rw [if_neg (fun z => q (by omega))]; exact dn st ms (by omega)
    refine k_isMet hs hw mb (by omega) (by omega) (fun c => ⟨_, rfl, hw, fun q => by omega, fun _ => ⟨by omega, ?_⟩⟩) (fun c => ⟨_, rfl, hw, fun _ q hq => ?_, fun q => absurd rfl q⟩)
    · rcases c with ⟨_, st, s1, s2⟩ | ⟨q, _⟩
      · rw [tc.2.1]
        refine ⟨fun c2 => ⟨by omega, ?_⟩, fun c2 => ⟨by omega, fun h13 e13 => ?_⟩⟩
        · rw [Int.toNat_natCast, tc.2.2 j (by omega), ← s2]
          refine k_fitFrom (n := n) hs hw x r s1 (by omega) hn (fi (j + 1) (by omega) (by omega)) ⟨_, rfl, hw, node_b ((mA_r s1).ok r).1, fun h10 e10 => ?_⟩
          rw [s2] at e10 ⊢
          rw [Int.toNat_natCast] at e10
          exact put _ h10 e10 (fun st' z1 z2 => by rw [mA_inj r z1 s1 (by omega)])
        · rw [Int.toNat_natCast, Int.toNat_natCast] at e13
          refine put 1 h13 e13 (fun st' z1 z2 => ?_)
          rw [show n - j = 0 by omega]
          simp only [hN]
      · omega
    · rw [am_w_id (by omega) (by omega)] at hq
      obtain rfl : q = ((k + 1 : Nat) : Int) := by omega
      refine ih (k + 1) h (by omega) hw x tc mb fi (fun st ms hl => ?_) H
      have : nodeS st ≠ (k : Int) := fun z => c (Or.inl ⟨hj, st, ms, z⟩)
      exact dn st ms (by omega)
theorem k_listen (hs : am_sc scr) (hw : wf h) (x : grP h a f) (r : rok a f B) (ht : t1 ∈ TR) (tc : trC h t1 n num) (hn : 1 ≤ n ∧ n ≤ 8) (H : ∀ g, wf g → fr HL [] h g → grP g a f → trC g t1 n num → mbI g (msS a f num n 0) → (∀ i, i ≤ n → fiP g a f num n i) → Q none g) : am_R (am_prog scr) (d + 4) f_Tally_listen 0 [some (.inr (.inr (((43) : Nat) : Int))), some (.inr (.inr (((t1) : Nat) : Int))), none, none] [] h Q := by
  have t95 : 95 ≤ t1 := by
    have : ∀ t ∈ TR, 95 ≤ t := by decide
    exact this t1 ht
  have nb := node_b r.st.1
  refine w_Tally_listen_0 ht hs hw ?_
  refine k_fillI (n := 185) hs hw (by decide) (by decide +kernel) (by omega) (by decide +kernel) (fun g1 w1 f1 e1 => ⟨rfl, w1, ?_⟩)
  have x1 : grP g1 a f := x.fr f1 (by decide) (by simp)
  rw [x1.2.1.1]
  refine ⟨nb, fun h3 e3 => ?_⟩
  have f3 : fr [46] [] h h3 := by rw [e3]; exact f1.put (Or.inl (by decide))
  have w3 : wf h3 := by rw [e3]; exact w1.pa (by decide +kernel)
  -- from the last beat to the first
  have back : ∀ (m : Nat) (g : am_H), m ≤ n + 1 → wf g → fr HL [] h g → grP g a f → trC g t1 n num → mbI g (msS a f num n 0) → (∀ i, m ≤ i → i ≤ n → fiP g a f num n i) → ∀ y, y = (m : Int) - 1 → am_R (am_prog scr) (d + 4) f_Tally_listen 100 [some (.inr (.inr (((43) : Nat) : Int))), some (.inr (.inr (((t1) : Nat) : Int))), some (.inl (y)), none] [] g Q := by
    intro m
    induction m with
    | zero =>
      intro g hm wg fg xg tg mb fi y hy
      exact w_Tally_listen_100 ht hs wg ⟨fun _ => H g wg fg xg tg mb (fun i hi => fi i (by omega) hi), fun c => by omega⟩
    | succ m ih =>
      intro g hm wg fg xg tg mb fi y hy
      obtain rfl : y = (m : Int) := by omega
      refine w_Tally_listen_100 ht hs wg ⟨fun c => by omega, fun _ => ?_⟩
      refine k_listen_106 (n := n) hs r ht (by omega) hn.2 185 0 g rfl wg xg tg mb (fun i h1 h2 => fi i (by omega) h2) (fun st ms hl => by have := (node_b ((mA_r ms).ok r).1).1; omega) (fun g2 w2 f2 y2 q hq => ?_)
      rw [am_w_id (by omega) (by omega)] at hq
      exact ih g2 (by omega) w2 (fg.trans (f2.mono (by decide) (by simp))) (xg.fr f2 (by decide) (by simp)) (tg.fr f2 (by simp; omega) (by simp)) (fun q hq => by rw [f2.c 46 (by decide) (by simp)]; exact mb q hq) (fun i h1 h2 => y2 i h1 h2) q (by omega)
  have fwd : ∀ (m j : Nat) (g : am_H), j + m = n → wf g → fr [46] [] h g → mbI g (msS a f num j 0) → am_R (am_prog scr) (d + 4) f_Tally_listen 23 [some (.inr (.inr (((43) : Nat) : Int))), some (.inr (.inr (((t1) : Nat) : Int))), some (.inl ((j : Int))), none] [] g Q := by
    intro m
    induction m with
    | zero =>
      intro j g hj wg fg mb
      have tg : trC g t1 n num := tc.fr fg (by simp; omega) (by simp)
      have xg : grP g a f := x.fr fg (by decide) (by simp)
      obtain rfl : j = n := by omega
      refine w_Tally_listen_23 ht hs wg ?_
      rw [tg.2.1]
      refine ⟨fun _ => ?_, fun c => by omega⟩
      refine w_jM_min_0 hs wg ⟨fun c => by omega, fun _ => ⟨_, rfl, wg, ?_⟩⟩
      exact back (j + 1) g (by omega) wg (fg.mono (by decide) (by simp)) xg tg mb (fun i h1 h2 => by omega) _ (by omega)
    | succ m ih =>
      intro j g hj wg fg mb
      have tg : trC g t1 n num := tc.fr fg (by simp; omega) (by simp)
      have xg : grP g a f := x.fr fg (by decide) (by simp)
      refine w_Tally_listen_23 ht hs wg ?_
      rw [tg.2.1]
      refine ⟨fun c => by omega, fun _ => ⟨fun c => by omega, fun _ => ?_⟩⟩
      refine k_listen_39 (n := n) hs r ht (by omega) hn.2 180 0 g rfl wg xg tg mb (fun g2 w2 f2 y2 q hq => ?_)
      rw [am_w_id (by omega) (by omega)] at hq
      obtain rfl : q = ((j + 1 : Nat) : Int) := by omega
      exact ih (j + 1) g2 (by omega) w2 (fg.trans f2) y2
  refine fwd n 0 h3 (by omega) w3 f3 (fun k hk => ?_)
  have c46 : h3.2.2.2 46 k = if k = (nodeS (stA a)).toNat then 1 else 0 := by
    rw [e3]
    simp only [put_at, true_and]
    rw [e1 k, if_pos hk]
  rw [c46]
  by_cases q : k = (nodeS (stA a)).toNat
  · rw [if_pos q]
    have one : isBits (am_or 0 (am_shl 1 0)) 9 (msS a f num 0 0 k) := by
      refine (isBits.zero (P := fun _ => False) (fun s _ => id)).or (by omega) (by omega) (fun b hb => ?_)
      constructor
      · rintro (⟨b1, _⟩ | ⟨b1, st, e, s1, s2, _⟩)
        · exact Or.inr (by omega)
        · have := (node_b ((mA_r s1).ok r).1).1; omega
      · rintro (z | z)
        · exact absurd z id
        · obtain rfl : b = 0 := by omega
          exact Or.inl ⟨by omega, stA a, rfl, by omega⟩
    have e : am_or 0 (am_shl 1 0) = 1 := by decide +kernel
    rw [e] at one
    exact one
  · rw [if_neg q]
    refine isBits.zero (fun b hb => ?_)
    rintro (⟨b1, st, s1, s2⟩ | ⟨b1, st, e, s1, s2, _⟩)
    · obtain rfl : b = 0 := by omega
      have s1 : st = stA a := s1
      rw [s1] at s2
      omega
    · have := (node_b ((mA_r s1).ok r).1).1; omega
end HD
