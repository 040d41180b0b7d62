/-! the class: the graph is worked out; the play left alone -/
def rI (h : am_H) (a : Nat → Int) (f : Nat → (Nat → Int) → Int) : Prop := (0 ≤ h.2.2.2 30 7 ∧ h.2.2.2 30 7 ≤ 180) ∧ (∀ i : Nat, (i : Int) < h.2.2.2 30 7 → ∃ st, Rch a f st ∧ ¬ ovT a st ∧ h.2.2.2 36 i = nodeS st) ∧ (∀ n : Nat, n < 180 → (h.2.2.2 37 n = 0 ∧ ∀ i : Nat, (i : Int) < h.2.2.2 30 7 → h.2.2.2 36 i ≠ (n : Int)) ∨ (h.2.2.2 37 n = 1 ∧ ∃ i : Nat, (i : Int) < h.2.2.2 30 7 ∧ h.2.2.2 36 i = (n : Int))) ∧ ∀ i j : Nat, i < j → (j : Int) < h.2.2.2 30 7 → h.2.2.2 36 i ≠ h.2.2.2 36 j
section PR
variable {h g : am_H} {W : Wd} {ser : Nat} {a b : Nat → Int} {f : Nat → (Nat → Int) → Int} {B C : Int}
theorem on_144 (r : rok a f B) {st : Int} (h1 : stOk a st) (ho : ¬ ovT a st) : 0 ≤ nodeS st ∧ nodeS st < 144 := by
  have h2 := (on_iff h1).mpr ho
  have h3 := node_b h1.1
  have h4 := r.1.2.2.1
  omega
theorem cnt_144 (r : rok a f B) (hc : 0 ≤ h.2.2.2 30 7) (he : ∀ i : Nat, (i : Int) < h.2.2.2 30 7 → ∃ st, Rch a f st ∧ ¬ ovT a st ∧ h.2.2.2 36 i = nodeS st) (hd : ∀ i j : Nat, i < j → (j : Int) < h.2.2.2 30 7 → h.2.2.2 36 i ≠ h.2.2.2 36 j) : h.2.2.2 30 7 ≤ 144 := by
  have b : ∀ i : Nat, (i : Int) < h.2.2.2 30 7 → 0 ≤ h.2.2.2 36 i ∧ h.2.2.2 36 i < 144 := by
    intro i hi
    obtain ⟨st, s1, s2, s3⟩ := he i hi
    rw [s3]
    exact on_144 r (s1.ok r) s2
  have := pigeon 144 (h.2.2.2 30 7).toNat (fun i => (h.2.2.2 36 i).toNat) (fun i hi => by
    have := b i (by omega)
    show (h.2.2.2 36 i).toNat < 144
    omega) (fun i j hij hj e => by
    have h1 := b i (by omega)
    have h2 := b j (by omega)
    have e : (h.2.2.2 36 i).toNat = (h.2.2.2 36 j).toNat := e
    exact hd i j hij (by omega) (by omega))
  omega
theorem ov_sim (p : simA a b) {st : Int} : ovT a st ↔ ovT b st := by
  show (actI st = a 3 ∨ st % 2 = 1) ↔ (actI st = b 3 ∨ st % 2 = 1)
  rw [p 3 (by omega)]
theorem Rch.sim (p : simA a b) (ra : rok a f B) (rb : rok b f C) (e : stA b = stA a) {st : Int} (x : Rch a f st) : Rch b f st := by
  obtain ⟨n, hn⟩ := x
  induction n generalizing st with
  | zero => rw [hn, ← e]; exact Rch.zero
  | succ n ih =>
    obtain ⟨s, d, h1, h2, h3, h4⟩ := hn
    have y := ih h1
    have so : stOk b s := y.ok rb
    have ho : ¬ ovT b s := fun q => h2 ((ov_sim p).mpr q)
    rw [h4]
    have et : Tr a f s d = Tr b f s d := by
      unfold Tr
      rw [beatS_congr p ra.1 so.1.1, p 28 (by omega)]
    rw [et]
    exact y.step ho (by rw [p 4 (by omega)]; exact h3)
theorem stOk.sim (p : simA a b) {st : Int} (x : stOk a st) : stOk b st := by
  unfold stOk at x ⊢
  rw [p 3 (by omega), p 4 (by omega), p 2 (by omega)]
  exact x
theorem nxA.sim (p : simA a b) (ra : rok a f B) (x : nxA h a f) : nxA h b f := by
  intro n hn
  rcases x n hn with q | ⟨q1, q2, q3, q4⟩
  · exact Or.inl q
  · refine Or.inr ⟨q1.sim p, fun c => q2 ((ov_sim p).mpr c), ?_, ?_⟩
    · rw [q3, beatS_congr p ra.1 q1.1.1, p 28 (by omega)]
    · rw [q4, p 28 (by omega), beatS_congr p ra.1 q1.1.1, snorS_congr p ra.1.1 q1.1.1]
theorem gset.sim (p : simA a b) (ra : rok a (W.2.2.1 ser) C) (x : gset h W ser a B) : gset h W ser b B := by
  obtain ⟨x1, ⟨st, s1, s2⟩, x3, x4⟩ := x
  refine ⟨⟨x1.1, fun j hj => by rw [p j (by omega)]; exact x1.2 j hj⟩, ⟨st, s1, ?_⟩, x3, x4.sim p ra⟩
  rw [p 28 (by omega)]
  exact s2.row (fun j hj => p j (by omega))
theorem gprep.sim (p : simA a b) (ra : rok a f B) (rb : rok b f C) (e : nodeS (stA b) = nodeS (stA a)) (x : gprep h a f) : gprep h b f := by
  obtain ⟨x1, x2, x3, x4, x5⟩ := x
  by_cases q : stA a % 2 = 1
  · have qb : stA b % 2 = 1 := by
      apply Decidable.byContradiction
      intro c
      have h1 := nodeS_e rb.st.1 c
      have h2 := nodeS_o ra.st.1 q
      omega
    have na : ∀ {c : Nat → Int}, stA c % 2 = 1 → ∀ st, Rch c f st → ovT c st := by
      intro c hc st hr
      obtain ⟨n, hn⟩ := hr
      induction n generalizing st with
      | zero => rw [hn]; exact Or.inr hc
      | succ n ih =>
        obtain ⟨s, d, h1, h2, h3, h4⟩ := hn
        exact absurd (ih s h1) h2
    have c0 : h.2.2.2 30 7 = 0 := by
      apply Decidable.byContradiction
      intro c
      obtain ⟨st, s1, s2, _⟩ := x3 0 (by omega)
      exact s2 (na q st s1)
    refine ⟨by rw [e]; exact x1, x2, fun i hi => by omega, fun st hr ho => absurd (na qb st hr) ho, x5⟩
  · have es : stA a = stA b := nodeS_inj ra.st.1 rb.st.1 q e.symm
    have ov : ∀ st, ovT a st ↔ ovT b st := fun st => by
      show (actI st = a 3 ∨ st % 2 = 1) ↔ (actI st = b 3 ∨ st % 2 = 1)
      rw [p 3 (by omega)]
    refine ⟨by rw [e]; exact x1, x2, fun i hi => ?_, fun st hr ho => ?_, x5⟩
    · obtain ⟨st, s1, s2, s3, s4⟩ := x3 i hi
      exact ⟨st, s1.sim p ra rb es.symm, fun c => s2 ((ov st).mpr c), s3, s4⟩
    · exact x4 st (hr.sim p.symm rb ra es) (fun c => ho ((ov st).mp c))
theorem gprep.known (x : gprep h a f) {st : Int} (r : rok a f B) (hr : Rch a f st) (ho : ¬ ovT a st) : h.2.2.2 34 (nodeS st).toNat ≠ -1 := by
  obtain ⟨i, i1, i2⟩ := x.2.2.2.1 st hr ho
  obtain ⟨s, s1, s2, s3, s4⟩ := x.2.2.1 i i1
  rw [← i2, s3]
  exact s4
end PR
section PK
variable {scr : Nat × (Nat → Int)} {d : Nat} {h : am_H} {Q : Option am_V → am_H → Prop} {W : Wd} {p ser : Nat} {a b : Nat → Int} {f : Nat → (Nat → Int) → Int} {B : Int}
theorem k_reach {st : Int} (hs : am_sc scr) (hw : wf h) (x : ghs h a) (r : rok a f B) (y : rI h a f) (hr : Rch a f st) (H : ∀ g, wf g → fr [36, 37] [(30, 7)] h g → rI g a f → h.2.2.2 30 7 ≤ g.2.2.2 30 7 → (∀ i : Nat, (i : Int) < h.2.2.2 30 7 → g.2.2.2 36 i = h.2.2.2 36 i) → (¬ ovT a st → ∃ i : Nat, (i : Int) < g.2.2.2 30 7 ∧ g.2.2.2 36 i = nodeS st) → Q none g) : am_R (am_prog scr) (d + 2) f_Graph_reach 0 [some (.inr (.inr (((30) : Nat) : Int))), some (.inl (nodeS st))] [] h Q := by
  have so := hr.ok r
  obtain ⟨y1, y2, y3, y4⟩ := y
  have y0 : rI h a f := ⟨y1, y2, y3, y4⟩
  refine w_Graph_reach_0 hs hw ?_
  refine k_gOn hs hw x so ⟨_, rfl, hw, fun c => ?_, fun c => ?_⟩
  · have ho : ovT a st := by
      apply Decidable.byContradiction; intro q; rw [if_neg q] at c; omega
    exact H h hw fr.rfl y0 (by omega) (fun _ _ => rfl) (fun q => absurd ho q)
  · have ho : ¬ ovT a st := by
      intro q; rw [if_pos q] at c; omega
    have nb := on_144 r so ho
    have en : (((nodeS st).toNat : Nat) : Int) = nodeS st := by omega
    refine ⟨by omega, fun c2 => ?_, fun c2 => ⟨by omega, fun g5 e5 => ?_⟩⟩
    · rcases y3 (nodeS st).toNat (by omega) with q | q
      · exact absurd q.1 c2
      · refine H h hw fr.rfl y0 (by omega) (fun _ _ => rfl) (fun _ => ?_)
        obtain ⟨i, i1, i2⟩ := q.2
        exact ⟨i, i1, by rw [i2, en]⟩
    · have new : ∀ i : Nat, (i : Int) < h.2.2.2 30 7 → h.2.2.2 36 i ≠ nodeS st := by
        rcases y3 (nodeS st).toNat (by omega) with q | q
        · intro i hi e
          exact q.2 i hi (by rw [e, en])
        · rw [q.1] at c2; omega
      have cb := cnt_144 r y1.1 y2 y4
      have e7 : g5.2.2.2 30 7 = h.2.2.2 30 7 := by rw [e5, put_ne (by omega)]
      rw [e7]
      refine ⟨by omega, fun g7 e7b g8 e8 => ?_⟩
      have e7c : g7.2.2.2 30 7 = h.2.2.2 30 7 := by rw [e7b, put_ne (by omega), e7]
      rw [e7c, am_w_id (by omega) (by omega)] at e8
      have w8 : wf g8 := by rw [e8, e7b, e5]; exact ((hw.pa (by decide +kernel)).pa (by decide +kernel)).put np_30_7
      have f8 : fr [36, 37] [(30, 7)] h g8 := by
        rw [e8, e7b, e5]
        exact ((fr.rfl.put (Or.inl (by decide))).put (Or.inl (by decide))).put (Or.inr (by decide))
      have c7 : g8.2.2.2 30 7 = h.2.2.2 30 7 + 1 := by rw [e8, put_eq]
      have c36 : ∀ j, g8.2.2.2 36 j = if j = (h.2.2.2 30 7).toNat then nodeS st else h.2.2.2 36 j := by
        intro j
        rw [e8, put_ne (by omega), e7b]
        simp only [put_at, true_and]
        rw [e5]
        simp only [put_at]
        rw [if_neg (show ¬ ((36 : Nat) = 37 ∧ j = (nodeS st).toNat) by omega)]
      have c37 : ∀ j, g8.2.2.2 37 j = if j = (nodeS st).toNat then 1 else h.2.2.2 37 j := by
        intro j
        rw [e8, put_ne (by omega), e7b, put_ne (by omega), e5]
        simp only [put_at, true_and]
      have old : ∀ i : Nat, (i : Int) < h.2.2.2 30 7 → g8.2.2.2 36 i = h.2.2.2 36 i := fun i hi => by rw [c36, if_neg (by omega)]
      have last : g8.2.2.2 36 (h.2.2.2 30 7).toNat = nodeS st := by rw [c36, if_pos rfl]
      refine H g8 w8 f8 ⟨by omega, fun i hi => ?_, fun n hn => ?_, fun i j hij hj => ?_⟩ (by omega) old (fun _ => ⟨(h.2.2.2 30 7).toNat, by omega, last⟩)
      · by_cases q : (i : Int) < h.2.2.2 30 7
        · rw [old i q]; exact y2 i q
        · obtain rfl : i = (h.2.2.2 30 7).toNat := by omega
          exact ⟨st, hr, ho, last⟩
      · rw [c37]
        by_cases q : n = (nodeS st).toNat
        · rw [if_pos q]
          exact Or.inr ⟨rfl, (h.2.2.2 30 7).toNat, by omega, by rw [last, q, en]⟩
        · rw [if_neg q]
          rcases y3 n hn with z | z
          · refine Or.inl ⟨z.1, fun i hi => ?_⟩
            by_cases q2 : (i : Int) < h.2.2.2 30 7
            · rw [old i q2]; exact z.2 i q2
            · obtain rfl : i = (h.2.2.2 30 7).toNat := by omega
              rw [last]; omega
          · obtain ⟨i, i1, i2⟩ := z.2
            exact Or.inr ⟨z.1, i, by omega, by rw [old i i1]; exact i2⟩
      · by_cases q : (j : Int) < h.2.2.2 30 7
        · rw [old i (by omega), old j q]; exact y4 i j hij q
        · obtain rfl : j = (h.2.2.2 30 7).toNat := by omega
          rw [last, old i (by omega)]; exact new i (by omega)
theorem k_workOut {n : Nat} (hs : am_sc scr) (hw : wf h) (w : wc h W) (x : gset h W ser a B) (hB : B < 999000) (r : rok a (W.2.2.1 ser) B) (hn : n < 180) (h1 : stOk a (stN n)) (ho : ¬ ovT a (stN n)) (h4 : a 4 ≠ 0) (H : ∀ g, wf g → fr [10, 11, 12, 13, 14, 15, 31, 34, 35] [] h g → wc g W → gset g W ser a (B + 2) → g.2.2.2 34 n ≠ -1 → (∀ m, h.2.2.2 34 m ≠ -1 → g.2.2.2 34 m ≠ -1) → Q none g) : am_R (am_prog scr) (d + 4) f_Graph_workOut 0 [some (.inr (.inr (((30) : Nat) : Int))), some (.inl ((n : Int))), none] [] h Q := by
  have p31 : 31 ∈ PL := by decide
  obtain ⟨x1, ⟨st, s1, s2⟩, x3, x4⟩ := x
  have sb := stN_b (n := (n : Int)) (by omega)
  have a3 : actI (stN n) < a 3 := by
    have : actI (stN n) ≠ a 3 := fun e => ho (Or.inl e)
    have := h1.2.1
    omega
  have ev : stN n % 2 = 0 := sb.2.1
  have ok0 := beatS_ok r.1 h1 ho (hu := a 28) (wk := -1)
  have ok1 := beatS_ok r.1 h1 ho (hu := a 28) (wk := snorS a (W.2.2.1 ser) (a 28) (stN n) (-1))
  have hk0 : nodeS (beatS a (W.2.2.1 ser) (a 28) (stN n) (-1)) ≠ -1 := by have := node_b ok0.1; omega
  refine w_Graph_workOut_0 hs hw ?_
  refine k_standAt hs hw p31 s2 (by omega) h4 (fun g1 w1 f1 q1 b1 => ⟨rfl, w1, ?_⟩)
  have wc1 : wc g1 W := w.fr f1 (by decide) (by simp)
  have hh1 := gset.ho (B := B) (h := g1) ⟨x1, ⟨_, sb.1, q1⟩, by rw [b1]; exact x3, x4.fr (fun j _ => by rw [f1.c 34 (by decide) (by simp)]) (fun j _ => by rw [f1.c 35 (by decide) (by simp)])⟩ wc1
  refine k_step hs w1 p31 r.1 wc1.1 r.2.2.2.1 sb.1 a3 ev (bt := h.2.2.2 31 7) (by omega) hh1.2.1 q1 b1 hh1.2.2 wc1.2.2 (fun g2 w2 f2 c2 q2 b2 => ⟨_, rfl, w2, ?_⟩)
  have f2' : fr [10, 11, 12, 13, 14, 15, 31, 34, 35] [] h g2 := (f1.mono (by decide) (by simp)).trans (f2.mono (by decide) (by decide))
  have wc2 : wc g2 W := ⟨w.1, wc1.2.1.fr f2 (by decide) (by decide), c2⟩
  have bb : 0 ≤ g2.2.2.2 31 7 ∧ g2.2.2.2 31 7 ≤ B + 1 := by rw [b2]; split <;> omega
  refine k_node hs w2 p31 q2 ok0.1 (Or.inl h4) ⟨_, rfl, w2, by omega, fun g7 e7 => ⟨by omega, by omega, fun g10 e10 => ?_⟩⟩
  rw [Int.toNat_natCast] at e7 e10
  have v34 : g7.2.2.2 34 n = nodeS (beatS a (W.2.2.1 ser) (a 28) (stN n) (-1)) := by rw [e7]; exact put_eq
  rw [v34] at e10
  have w10 : wf g10 := by rw [e10, e7]; exact (w2.pa (by decide +kernel)).pa (by decide +kernel)
  have f10 : fr [34, 35] [] g2 g10 := by rw [e10, e7]; exact (fr.rfl.put (Or.inl (by decide))).put (Or.inl (by decide))
  have g34 : ∀ j, g10.2.2.2 34 j = if j = n then nodeS (beatS a (W.2.2.1 ser) (a 28) (stN n) (-1)) else h.2.2.2 34 j := by
    intro j
    rw [e10, put_ne (by omega), e7]
    simp only [put_at, true_and]
    rw [f2.c 34 (by decide) (by decide), f1.c 34 (by decide) (by simp)]
  have g35 : ∀ j, g10.2.2.2 35 j = if j = n then nodeS (beatS a (W.2.2.1 ser) (a 28) (stN n) (-1)) else h.2.2.2 35 j := by
    intro j
    rw [e10]
    simp only [put_at, true_and]
    rw [e7]
    simp only [put_at]
    rw [if_neg (show ¬ ((35 : Nat) = 34 ∧ j = n) by omega), f2.c 35 (by decide) (by decide), f1.c 35 (by decide) (by simp)]
  have wc10 : wc g10 W := wc2.fr f10 (by decide) (by simp)
  have q10 := q2.fr f10 (by decide) (by simp)
  have b10 : g10.2.2.2 31 7 = g2.2.2.2 31 7 := f10.f 31 7 (by decide) (by simp)
  refine ⟨fun c => ?_, fun c => ?_⟩
  · refine H g10 w10 (f2'.trans (f10.mono (by decide) (by simp))) wc10 ⟨x1, ⟨_, ok0.1, q10⟩, by rw [b10]; omega, fun m hm => ?_⟩ (by rw [g34, if_pos rfl]; exact hk0) (fun m hm => by
      rw [g34]; split
      · exact hk0
      · exact hm)
    by_cases q : m = n
    · subst q
      refine Or.inr ⟨h1, ho, by rw [g34, if_pos rfl], by rw [g35, if_pos rfl, c]⟩
    · rcases x4 m hm with z | ⟨z1, z2, z3, z4⟩
      · exact Or.inl (by rw [g34, if_neg q]; exact z)
      · exact Or.inr ⟨z1, z2, by rw [g34, if_neg q]; exact z3, by rw [g35, if_neg q]; exact z4⟩
  · refine k_standAt hs w10 p31 q10 (by omega) h4 (fun g11 w11 f11 q11 b11 => ⟨rfl, w11, ?_⟩)
    have wc11 : wc g11 W := wc10.fr f11 (by decide) (by simp)
    have g34' : ∀ j, g11.2.2.2 34 j = g10.2.2.2 34 j := fun j => by rw [f11.c 34 (by decide) (by simp)]
    have g35' : ∀ j, g11.2.2.2 35 j = g10.2.2.2 35 j := fun j => by rw [f11.c 35 (by decide) (by simp)]
    have hh11 : hsC g11 (W.2.2.2 ser) a (W.2.2.1 ser) ∧ g11.2.2.2 (W.2.2.2 ser) = g1.2.2.2 (W.2.2.2 ser) := by
      have f12 : fr [10, 11, 12, 13, 14, 15, 31, 34, 35] [] g1 g11 := ((f2.mono (by decide) (by decide)).trans (f10.mono (by decide) (by simp))).trans (f11.mono (by decide) (by simp))
      exact hh1.2.1.fr f12 (by decide) (by simp)
    refine k_step hs w11 p31 r.1 wc11.1 r.2.2.2.1 sb.1 a3 ev (bt := g2.2.2.2 31 7) (by omega) hh11.1 q11 (by rw [b11, b10]) (by rw [hh11.2]; exact hh1.2.2) wc11.2.2 (fun g12 w12 f12 c12 q12 b12 => ⟨_, rfl, w12, ?_⟩)
    refine k_node hs w12 p31 q12 ok1.1 (Or.inl h4) ⟨_, rfl, w12, by omega, fun g17 e17 => ?_⟩
    rw [Int.toNat_natCast] at e17
    have f17 : fr [35] [] g12 g17 := by rw [e17]; exact fr.rfl.put (Or.inl (by decide))
    have h34 : ∀ j, g17.2.2.2 34 j = g10.2.2.2 34 j := fun j => by rw [f17.c 34 (by decide) (by simp), f12.c 34 (by decide) (by decide), g34']
    have h35 : ∀ j, g17.2.2.2 35 j = if j = n then nodeS (beatS a (W.2.2.1 ser) (a 28) (stN n) (snorS a (W.2.2.1 ser) (a 28) (stN n) (-1))) else g10.2.2.2 35 j := by
      intro j
      rw [e17]
      simp only [put_at, true_and]
      rw [f12.c 35 (by decide) (by decide), g35']
    have wc12 : wc g12 W := ⟨w.1, wc11.2.1.fr f12 (by decide) (by decide), c12⟩
    have b17 : g17.2.2.2 31 7 = g12.2.2.2 31 7 := f17.f 31 7 (by decide) (by simp)
    have bb2 : 0 ≤ g12.2.2.2 31 7 ∧ g12.2.2.2 31 7 ≤ B + 2 := by rw [b12]; split <;> omega
    refine H g17 (by rw [e17]; exact w12.pa (by decide +kernel)) ((((f2'.trans (f10.mono (by decide) (by simp))).trans (f11.mono (by decide) (by simp))).trans (f12.mono (by decide) (by decide))).trans (f17.mono (by decide) (by simp))) (wc12.fr f17 (by decide) (by simp)) ⟨x1, ⟨_, ok1.1, q12.fr f17 (by decide) (by simp)⟩, by rw [b17]; exact bb2, fun m hm => ?_⟩ (by rw [h34, g34, if_pos rfl]; exact hk0) (fun m hm => by
      rw [h34, g34]; split
      · exact hk0
      · exact hm)
    by_cases q : m = n
    · subst q
      refine Or.inr ⟨h1, ho, by rw [h34, g34, if_pos rfl], by rw [h35, if_pos rfl]⟩
    · rcases x4 m hm with z | ⟨z1, z2, z3, z4⟩
      · exact Or.inl (by rw [h34, g34, if_neg q]; exact z)
      · exact Or.inr ⟨z1, z2, by rw [h34, g34, if_neg q]; exact z3, by rw [h35, if_neg q, g35, if_neg q]; exact z4⟩
/-- the nodes ahead of place k have been gone through -/
def pI (h : am_H) (a : Nat → Int) (f : Nat → (Nat → Int) → Int) (k : Nat) : Prop := h.2.2.2 30 5 = nodeS (stA a) ∧ rI h a f ∧ (¬ ovT a (stA a) → ∃ i : Nat, (i : Int) < h.2.2.2 30 7 ∧ h.2.2.2 36 i = nodeS (stA a)) ∧ (k : Int) ≤ h.2.2.2 30 7 ∧ ∀ i, i < k → ∀ st, Rch a f st → ¬ ovT a st → h.2.2.2 36 i = nodeS st → h.2.2.2 34 (nodeS st).toNat ≠ -1 ∧ ∀ wk, wk = -1 ∨ wk = snorS a f (a 28) st (-1) → ¬ ovT a (beatS a f (a 28) st wk) → ∃ j : Nat, (j : Int) < h.2.2.2 30 7 ∧ h.2.2.2 36 j = nodeS (beatS a f (a 28) st wk)
theorem prep_done {k : Nat} (x : pI h a f k) (hk : ¬ (k : Int) < h.2.2.2 30 7) : gprep h a f := by
  obtain ⟨x1, x2, x3, x4, x5⟩ := x
  have ek : (k : Int) = h.2.2.2 30 7 := by omega
  have cl : ∀ n st, rchN a f n st → ¬ ovT a st → ∃ i : Nat, (i : Int) < h.2.2.2 30 7 ∧ h.2.2.2 36 i = nodeS st := by
    intro n
    induction n with
    | zero => intro st q ho; rw [q] at ho ⊢; exact x3 ho
    | succ n ih =>
      intro st q ho
      obtain ⟨s, e, h1, h2, h3, h4⟩ := q
      obtain ⟨i, i1, i2⟩ := ih s h1 h2
      have y := (x5 i (by omega) s ⟨n, h1⟩ h2 i2).2
      rcases Tr_two (a := a) (f := f) (s := s) (e := e) h3.1 with ⟨t1, t2⟩ | ⟨t1, t2⟩
      · rw [h4, t2] at ho ⊢
        exact y _ (Or.inr rfl) ho
      · rw [h4, t2] at ho ⊢
        exact y _ (Or.inl rfl) ho
  refine ⟨x1, x2.1, fun i hi => ?_, fun st hr ho => ?_, x2.2.2.2⟩
  · obtain ⟨st, s1, s2, s3⟩ := x2.2.1 i hi
    exact ⟨st, s1, s2, s3, (x5 i (by omega) st s1 s2 s3).1⟩
  · obtain ⟨n, hn⟩ := hr
    exact cl n st hn ho
theorem k_prep_93 {z : Int} (hs : am_sc scr) (r : rok a (W.2.2.1 ser) B) (hB : B < 900000) : ∀ (m k : Nat) (h : am_H), k + m = 180 → wf h → wc h W → gset h W ser a (B + 2 * k) → pI h a (W.2.2.1 ser) k → (∀ g, wf g → fr [10, 11, 12, 13, 14, 15, 31, 34, 35, 36, 37] [(30, 7)] h g → wc g W → gset g W ser a (B + 400) → gprep g a (W.2.2.1 ser) → Q none g) → am_R (am_prog scr) (d + 5) f_Graph_prepare 93 [some (.inr (.inr (((30) : Nat) : Int))), some (.inr (.inr (((24) : Nat) : Int))), some (.inl (z)), some (.inl ((k : Int))), none] [] h Q := by
  intro m
  have p24 : 24 ∈ PL := by decide
  induction m with
  | zero =>
    intro k h hk hw w x y H
    exfalso
    have c := cnt_144 r y.2.1.1.1 y.2.1.2.1 y.2.1.2.2.2
    have := y.2.2.2.1
    omega
  | succ m ih =>
    intro k h hk hw w x y H
    obtain ⟨y1, y2, y3, y4, y5⟩ := y
    have gs : ∀ {g : am_H} {C : Int}, C ≤ B + 400 → gset g W ser a C → gset g W ser a (B + 400) := fun hC z => ⟨z.1, z.2.1, ⟨z.2.2.1.1, by have := z.2.2.1.2; omega⟩, z.2.2.2⟩
    refine w_Graph_prepare_93 p24 hs hw ⟨fun c => ?_, fun c => ⟨fun c2 => by omega, fun c2 => ⟨by omega, fun n hn => ?_⟩⟩⟩
    · exact H h hw fr.rfl w (gs (by omega) x) (prep_done ⟨y1, y2, y3, y4, y5⟩ c)
    · obtain ⟨st, s1, s2, s3⟩ := y2.2.1 k c
      rw [Int.toNat_natCast, s3] at hn
      subst hn
      have so := s1.ok r
      have ev : ¬ st % 2 = 1 := fun q => s2 (Or.inr q)
      have ne := nodeS_e so.1 ev
      have en : (((nodeS st).toNat : Nat) : Int) = nodeS st := by omega
      have part2 : ∀ (g : am_H), wf g → wc g W → gset g W ser a (B + 2 * k + 2) → fr [10, 11, 12, 13, 14, 15, 31, 34, 35] [] h g → g.2.2.2 34 (nodeS st).toNat ≠ -1 → (∀ m, h.2.2.2 34 m ≠ -1 → g.2.2.2 34 m ≠ -1) → am_R (am_prog scr) (d + 5) f_Graph_prepare 133 [some (.inr (.inr (((30) : Nat) : Int))), some (.inr (.inr (((24) : Nat) : Int))), some (.inl (z)), some (.inl ((k : Int))), some (.inl (nodeS st))] [] g Q := by
        intro g wg wcg xg fg kg mg
        have c36 : g.2.2.2 36 = h.2.2.2 36 := fg.c 36 (by decide) (by simp)
        have c37 : g.2.2.2 37 = h.2.2.2 37 := fg.c 37 (by decide) (by simp)
        have c30 : g.2.2.2 30 = h.2.2.2 30 := fg.c 30 (by decide) (by simp)
        have yg : rI g a (W.2.2.1 ser) := by unfold rI; rw [c36, c37, c30]; exact y2
        have nx : nxOK g a (W.2.2.1 ser) (nodeS st).toNat := by
          rcases xg.2.2.2 (nodeS st).toNat (by omega) with q | q
          · exact absurd q kg
          · exact q
        obtain ⟨n1, n2, n3, n4⟩ := nx
        rw [en, ne.2.1] at n3 n4
        have hsb := snorS_b r.1 (hu := a 28) (wk := -1) so.1.1
        have ra : Rch a (W.2.2.1 ser) (beatS a (W.2.2.1 ser) (a 28) st (-1)) := s1.step (e := 0) s2 ⟨by omega, by have := r.1.1; omega⟩
        have rb : Rch a (W.2.2.1 ser) (beatS a (W.2.2.1 ser) (a 28) st (snorS a (W.2.2.1 ser) (a 28) st (-1))) := by
          have := s1.step (e := snorS a (W.2.2.1 ser) (a 28) st (-1) + 1) s2 ⟨by omega, by omega⟩
          unfold Tr at this
          rw [show snorS a (W.2.2.1 ser) (a 28) st (-1) + 1 - 1 = snorS a (W.2.2.1 ser) (a 28) st (-1) by omega] at this
          exact this
        refine w_Graph_prepare_133 p24 hs wg ⟨by omega, ?_⟩
        rw [n3]
        refine k_reach hs wg (gset.ho xg wcg).1 r yg ra (fun g2 w2 f2 y2' le2 old2 in2 => ⟨rfl, w2, by omega, ?_⟩)
        have wc2 : wc g2 W := wcg.fr f2 (by decide) (by decide)
        have x2 : gset g2 W ser a (B + 2 * k + 2) := ⟨xg.1, by
          obtain ⟨s, q1, q2⟩ := xg.2.1
          exact ⟨s, q1, q2.fr f2 (by decide) (by decide)⟩, by rw [f2.c 31 (by decide) (by decide)]; exact xg.2.2.1, xg.2.2.2.fr (fun j _ => by rw [f2.c 34 (by decide) (by decide)]) (fun j _ => by rw [f2.c 35 (by decide) (by decide)])⟩
        have n4' : g2.2.2.2 35 (nodeS st).toNat = nodeS (beatS a (W.2.2.1 ser) (a 28) st (snorS a (W.2.2.1 ser) (a 28) st (-1))) := by rw [f2.c 35 (by decide) (by decide)]; exact n4
        rw [n4']
        refine k_reach hs w2 (gset.ho x2 wc2).1 r y2' rb (fun g3 w3 f3 y3' le3 old3 in3 => ⟨rfl, w3, fun q hq => ?_⟩)
        rw [am_w_id (by omega) (by omega)] at hq
        obtain rfl : q = ((k + 1 : Nat) : Int) := by omega
        have f23 : fr [36, 37] [(30, 7)] g g3 := f2.trans f3
        have wc3 : wc g3 W := wc2.fr f3 (by decide) (by decide)
        have x3 : gset g3 W ser a (B + 2 * ((k + 1 : Nat) : Int)) := ⟨xg.1, by
          obtain ⟨s, q1, q2⟩ := xg.2.1
          exact ⟨s, q1, q2.fr f23 (by decide) (by decide)⟩, by rw [f23.c 31 (by decide) (by decide)]; have := xg.2.2.1; omega, xg.2.2.2.fr (fun j _ => by rw [f23.c 34 (by decide) (by decide)]) (fun j _ => by rw [f23.c 35 (by decide) (by decide)])⟩
        have cnt : h.2.2.2 30 7 = g.2.2.2 30 7 := by rw [c30]
        have oldh : ∀ i : Nat, (i : Int) < h.2.2.2 30 7 → g3.2.2.2 36 i = h.2.2.2 36 i := fun i hi => by rw [old3 i (by omega), old2 i (by omega), c36]
        have keep : ∀ {v : Int}, (∃ i : Nat, (i : Int) < h.2.2.2 30 7 ∧ h.2.2.2 36 i = v) → ∃ i : Nat, (i : Int) < g3.2.2.2 30 7 ∧ g3.2.2.2 36 i = v := by
          intro v ⟨i, i1, i2⟩
          exact ⟨i, by omega, by rw [oldh i i1]; exact i2⟩
        have in2' : ¬ ovT a (beatS a (W.2.2.1 ser) (a 28) st (-1)) → ∃ i : Nat, (i : Int) < g3.2.2.2 30 7 ∧ g3.2.2.2 36 i = nodeS (beatS a (W.2.2.1 ser) (a 28) st (-1)) := by
          intro o
          obtain ⟨i, i1, i2⟩ := in2 o
          exact ⟨i, by omega, by rw [old3 i i1]; exact i2⟩
        have ff : fr [10, 11, 12, 13, 14, 15, 31, 34, 35, 36, 37] [(30, 7)] h g3 := (fg.mono (by decide) (by simp)).trans (f23.mono (by decide) (by decide))
        refine ih (k + 1) g3 (by omega) w3 wc3 x3 ⟨?_, y3', fun o => keep (y3 o), by omega, fun i hi s r1 r2 r3 => ?_⟩ (fun g4 w4 f4 => H g4 w4 (ff.trans f4))
        · rw [f23.f 30 5 (by decide) (by decide), c30]; exact y1
        · have g34 : ∀ j, g3.2.2.2 34 j = g.2.2.2 34 j := fun j => by rw [f23.c 34 (by decide) (by decide)]
          by_cases q : i = k
          · subst q
            rw [oldh i c, s3] at r3
            have es : st = s := nodeS_inj so.1 (r1.ok r).1 ev r3
            subst es
            refine ⟨by rw [g34]; exact kg, fun wk hwk o => ?_⟩
            rcases hwk with e | e
            · subst e; exact in2' o
            · subst e; exact in3 o
          · rw [oldh i (by omega)] at r3
            obtain ⟨z1, z2⟩ := y5 i (by omega) s r1 r2 r3
            exact ⟨by rw [g34]; exact mg _ z1, fun wk hwk o => keep (z2 wk hwk o)⟩
      refine ⟨by omega, fun c3 => ?_, fun c3 => ?_⟩
      · exact part2 h hw w ⟨x.1, x.2.1, by have := x.2.2.1; omega, x.2.2.2⟩ fr.rfl c3 (fun _ q => q)
      · rw [← en]
        refine k_workOut hs hw w x (by omega) (r.le (by omega)) (by omega) (by rw [en, ne.2.1]; exact so) (by rw [en, ne.2.1]; exact s2) (s1.n4 r s2) (fun g wg fg wcg xg kg mg => ⟨rfl, wg, ?_⟩)
        rw [en]
        exact part2 g wg wcg xg fg kg mg
theorem k_prep_62 {z : Int} (hs : am_sc scr) (hw : wf h) (w : wc h W) (x : plW h W 24 ser a) (r : rok a (W.2.2.1 ser) B) (hB : B < 900000) (y : gset h W ser a B) (H : ∀ g, wf g → fr [10, 11, 12, 13, 14, 15, 31, 34, 35, 36, 37] [(30, 5), (30, 7)] h g → wc g W → gset g W ser a (B + 400) → gprep g a (W.2.2.1 ser) → Q none g) : am_R (am_prog scr) (d + 5) f_Graph_prepare 62 [some (.inr (.inr (((30) : Nat) : Int))), some (.inr (.inr (((24) : Nat) : Int))), some (.inl (z)), none, none] [] h Q := by
  have p24 : 24 ∈ PL := by decide
  have r3 := r.2.2.1
  refine w_Graph_prepare_62 p24 hs hw ?_
  refine k_node hs hw p24 x.2.2.1 r.st.1 (by rw [r.st.2.2.2.2]; omega) ⟨_, rfl, hw, fun g3 e3 => ?_⟩
  have w3 : wf g3 := by rw [e3]; exact hw.put np_30_5
  have f3 : fr [] [(30, 5)] h g3 := by rw [e3]; exact fr.rfl.put (Or.inr (by decide))
  refine k_fillI (n := 180) hs w3 (by omega) (by decide +kernel) (by omega) (by decide +kernel) (fun g4 w4 f4 e4 => ⟨rfl, w4, fun g5 e5 => ?_⟩)
  have w5 : wf g5 := by rw [e5]; exact w4.put np_30_7
  have f5 : fr [] [(30, 7)] g4 g5 := by rw [e5]; exact fr.rfl.put (Or.inr (by decide))
  have ff : fr [37] [(30, 5), (30, 7)] h g5 := ((f3.mono (by simp) (by decide)).trans (f4.mono (by decide) (by simp))).trans (f5.mono (by simp) (by decide))
  have v5 : g5.2.2.2 30 5 = nodeS (stA a) := by
    rw [e5, put_ne (by omega), f4.f 30 5 (by decide) (by simp), e3]; exact put_eq
  have v7 : g5.2.2.2 30 7 = 0 := by rw [e5]; exact put_eq
  rw [v5]
  have wc5 : wc g5 W := w.fr ff (by decide) (by decide)
  have y5 : gset g5 W ser a B := ⟨y.1, by
    obtain ⟨s, q1, q2⟩ := y.2.1
    exact ⟨s, q1, q2.fr ff (by decide) (by decide)⟩, by rw [ff.c 31 (by decide) (by decide)]; exact y.2.2.1, y.2.2.2.fr (fun j _ => by rw [ff.c 34 (by decide) (by decide)]) (fun j _ => by rw [ff.c 35 (by decide) (by decide)])⟩
  have ri : rI g5 a (W.2.2.1 ser) := by
    unfold rI
    rw [v7]
    refine ⟨by omega, fun i hi => by omega, fun n hn => Or.inl ⟨?_, fun i hi => by omega⟩, fun i j _ hj => by omega⟩
    rw [f5.c 37 (by simp) (by decide), e4 n, if_pos hn]
  refine k_reach hs w5 (gset.ho y5 wc5).1 r ri Rch.zero (fun g6 w6 f6 r6 le6 old6 in6 => ⟨rfl, w6, ?_⟩)
  have wc6 : wc g6 W := wc5.fr f6 (by decide) (by decide)
  have y6 : gset g6 W ser a B := ⟨y5.1, by
    obtain ⟨s, q1, q2⟩ := y5.2.1
    exact ⟨s, q1, q2.fr f6 (by decide) (by decide)⟩, by rw [f6.c 31 (by decide) (by decide)]; exact y5.2.2.1, y5.2.2.2.fr (fun j _ => by rw [f6.c 34 (by decide) (by decide)]) (fun j _ => by rw [f6.c 35 (by decide) (by decide)])⟩
  refine k_prep_93 hs r hB 180 0 g6 rfl w6 wc6 ⟨y6.1, y6.2.1, by have := y6.2.2.1; omega, y6.2.2.2⟩ ⟨by rw [f6.f 30 5 (by decide) (by decide)]; exact v5, r6, in6, by have := r6.1; omega, fun i hi => by omega⟩ (fun g7 w7 f7 => H g7 w7 (((ff.mono (by decide) (by decide)).trans (f6.mono (by decide) (by decide))).trans (f7.mono (by decide) (by decide))))
def PPL : List Nat := [10, 11, 12, 13, 14, 15, 31, 32, 33, 34, 35, 36, 37]
def PPF : List (Nat × Nat) := [(30, 4), (30, 5), (30, 7)]
theorem k_prepare (hs : am_sc scr) (hw : wf h) (w : wc h W) (x : plW h W 24 ser a) (r : rok a (W.2.2.1 ser) B) (hB : B < 900000) (y : grI h W B) (H : ∀ g, wf g → fr PPL PPF h g → wc g W → grI g W (B + 400) → grP g a (W.2.2.1 ser) → Q none g) : am_R (am_prog scr) (d + 5) f_Graph_prepare 0 [some (.inr (.inr (((30) : Nat) : Int))), some (.inr (.inr (((24) : Nat) : Int))), none, none, none] [] h Q := by
  have p24 : 24 ∈ PL := by decide
  have p31 : 31 ∈ PL := by decide
  have s6 : ser ≤ 600 := Nat.le_trans x.1 w.1
  have s0 := setting_0 s6 r.1 r.2.2.2.1
  have fin : ∀ g, wf g → fr PPL PPF h g → wc g W → gset g W ser a (B + 400) → gprep g a (W.2.2.1 ser) → g.2.2.2 30 4 = settingI ser a → Q none g := by
    intro g wg fg wcg xg pg e4
    exact H g wg fg wcg (Or.inr ⟨ser, a, r.le (by omega), e4, xg, pg⟩) ⟨(gset.ho xg wcg).1, pg, xg.2.2.2⟩
  refine w_Graph_prepare_0 p24 hs hw ?_
  refine k_setting hs hw p24 w x r ⟨_, rfl, hw, fun c => ⟨fun _ => ?_, fun c1 => by omega⟩, fun c => ⟨fun c1 => by omega, fun _ => ?_⟩⟩
  · refine w_Graph_prepare_34 p24 hs hw ⟨fun c1 => by omega, fun _ => ?_⟩
    refine k_setting hs hw p24 w x r ⟨_, rfl, hw, fun g3 e3 => ?_⟩
    have w3 : wf g3 := by rw [e3]; exact hw.put np_30_4
    have f3 : fr [] [(30, 4)] h g3 := by rw [e3]; exact fr.rfl.put (Or.inr (by decide))
    refine k_takeFrom hs w3 p31 p24 (by decide) (x.fr f3 (by simp) (by decide)) r (fun g4 w4 f4 p4 q4 => ⟨rfl, w4, ?_⟩)
    refine k_fillI (n := 180) hs w4 (by omega) (by decide +kernel) (by omega) (by decide +kernel) (fun g5 w5 f5 e5 => ⟨rfl, w5, ?_⟩)
    have ff : fr PPL PPF h g5 := ((f3.mono (by simp) (by decide)).trans (f4.mono (by decide) (by simp))).trans (f5.mono (by decide) (by simp))
    have wc5 : wc g5 W := ((w.fr f3 (by simp) (by decide)).fr f4 (by decide) (by simp)).fr f5 (by decide) (by simp)
    have p5 := p4.fr f5 (by decide) (by simp)
    have r5 := r.2.2.2.2
    have y5 : gset g5 W ser a B := ⟨⟨x.1, x.2.1⟩, ⟨stA a, r.st.1, p5.2.2.1⟩, by rw [p5.2.2.2]; exact r5, fun n hn => Or.inl (by rw [e5 n, if_pos hn])⟩
    refine k_prep_62 hs w5 wc5 (q4.fr f5 (by decide) (by simp)) r hB y5 (fun g6 w6 f6 wc6 x6 p6 => fin g6 w6 (ff.trans (f6.mono (by decide) (by decide))) wc6 x6 p6 ?_)
    rw [f6.f 30 4 (by decide) (by decide), f5.f 30 4 (by decide) (by simp), f4.f 30 4 (by decide) (by simp), e3]; exact put_eq
  · rcases y with y | ⟨ser', b, y1, y2, y3, y4⟩
    · omega
    · have inj := setting_inj y1.1 r.1 y1.2.2.2.1 r.2.2.2.1 (y2.symm.trans c.symm)
      obtain ⟨i1, i2, i3⟩ := inj
      subst i1
      have sim : simA b a := by
        intro j hj
        rcases hj with q | q
        · rw [x.2.1 j q, y3.1.2 j q]
        · by_cases q1 : j < 22
          · have := (i2 (j - 16) (by omega)).1
            rw [show 16 + (j - 16) = j by omega] at this
            exact this
          · by_cases q2 : j < 28
            · have := (i2 (j - 22) (by omega)).2
              rw [show 22 + (j - 22) = j by omega] at this
              exact this
            · rw [show j = 28 by omega]; exact i3
      have gs := y3.sim sim y1
      have r3 := r.2.2.1
      refine k_node hs hw p24 x.2.2.1 r.st.1 (by rw [r.st.2.2.2.2]; omega) ⟨_, rfl, hw, fun c2 => ?_, fun c2 => ?_⟩
      · refine w_Graph_prepare_34 p24 hs hw ⟨fun _ => ?_, fun c1 => by omega⟩
        refine k_prep_62 hs hw w x r hB gs (fun g6 w6 f6 wc6 x6 p6 => fin g6 w6 (f6.mono (by decide) (by decide)) wc6 x6 p6 ?_)
        rw [f6.f 30 4 (by decide) (by decide)]; exact c.symm
      · have pp := y4.sim sim y1 r (by rw [c2, y4.1])
        exact fin h hw fr.rfl w ⟨gs.1, gs.2.1, by have := gs.2.2.1; omega, gs.2.2.2⟩ pp c.symm
theorem seq_rch (r : rok a f B) : ∀ k, Rch a f (seqA a f k) := by
  intro k
  induction k with
  | zero => exact Rch.zero
  | succ k ih =>
    simp only [seqA]
    split
    · exact ih
    · rename_i q; exact ih.step q ⟨by omega, r.1.1.1⟩
theorem k_la_28 (hs : am_sc scr) (r : rok a f B) : ∀ (m k : Nat) (h : am_H), k + m = 180 → wf h → grP h a f → h.2.2.2 30 11 = k → h.2.2.2 30 12 = -1 → (∀ i, i ≤ k → h.2.2.2 38 i = nodeS (seqA a f i)) → (∀ i, i < k → h.2.2.2 39 (nodeS (seqA a f i)).toNat = i) → (∀ n : Nat, n < 180 → (∀ i, i < k → nodeS (seqA a f i) ≠ (n : Int)) → h.2.2.2 39 n = -1) → (∀ i, i < k → ¬ ovT a (seqA a f i)) → (∀ i j, i < j → j < k → seqA a f i ≠ seqA a f j) → (¬ ovT a (seqA a f k) → ∀ i, i < k → seqA a f i ≠ seqA a f k) → (∀ g (n : Nat) (t : Int), wf g → fr [38, 39] [(30, 11), (30, 12)] h g → LN a f n t → g.2.2.2 30 11 = n → g.2.2.2 30 12 = t → (∀ i, i ≤ n → g.2.2.2 38 i = nodeS (seqA a f i)) → n ≤ 180 → Q none g) → am_R (am_prog scr) (d + 2) f_Graph_leaveAlone 28 [some (.inr (.inr (((30) : Nat) : Int))), none] [] h Q := by
  intro m
  induction m with
  | zero =>
    intro k h hk hw x h11 h12 h38 h39 h39n hno hd hnew H
    exfalso
    have := pigeon 144 k (fun i => (nodeS (seqA a f i)).toNat) (fun i hi => by
      have := on_144 r (seq_ok r i) (hno i hi)
      show (nodeS (seqA a f i)).toNat < 144
      omega) (fun i j hij hj e => by
      have h1 := on_144 r (seq_ok r i) (hno i (by omega))
      have h2 := on_144 r (seq_ok r j) (hno j hj)
      have e : (nodeS (seqA a f i)).toNat = (nodeS (seqA a f j)).toNat := e
      exact hd i j hij hj (nodeS_inj (seq_ok r i).1 (seq_ok r j).1 (fun q => hno i (by omega) (Or.inr q)) (by omega)))
    omega
  | succ m ih =>
    intro k h hk hw x h11 h12 h38 h39 h39n hno hd hnew H
    have so := seq_ok r k
    refine w_Graph_leaveAlone_28 hs hw ?_
    rw [h11, h12]
    refine ⟨fun c => by omega, fun _ => ⟨fun c => absurd rfl c, fun _ => ⟨by omega, ?_⟩⟩⟩
    rw [Int.toNat_natCast, h38 k (by omega)]
    refine k_gOn hs hw x.1 so ⟨_, rfl, hw, fun c => ?_, fun c => ?_⟩
    · have ho : ovT a (seqA a f k) := by
        apply Decidable.byContradiction; intro q; rw [if_neg q] at c; omega
      exact H h k (-1) hw fr.rfl (Or.inl ⟨rfl, ho, hno⟩) h11 h12 h38 (by omega)
    · have ho : ¬ ovT a (seqA a f k) := by
        intro q; rw [if_pos q] at c; omega
      have hnew := hnew ho
      have nb := on_144 r so ho
      refine ⟨by omega, fun y5 e5 => ?_⟩
      rw [h11, Int.toNat_natCast, h38 k (by omega)] at e5
      subst e5
      refine ⟨by omega, fun g7 e7 g8 e8 => ?_⟩
      rw [h11] at e7
      have v11 : g7.2.2.2 30 11 = k := by rw [e7, put_ne (by omega)]; exact h11
      rw [v11, am_w_id (by omega) (by omega)] at e8
      have w8 : wf g8 := by rw [e8, e7]; exact (hw.pa (by decide +kernel)).put np_30_11
      have f8 : fr [39] [(30, 11)] h g8 := by rw [e8, e7]; exact (fr.rfl.put (Or.inl (by decide))).put (Or.inr (by decide))
      have x8 : grP g8 a f := x.fr f8 (by decide) (by decide)
      have v8 : g8.2.2.2 30 11 = ((k + 1 : Nat) : Int) := by rw [e8, put_eq]; omega
      have hkn := x8.2.1.known r (seq_rch r k) ho
      refine k_after hs w8 x8.2.2 r so ho hkn (by omega) ⟨_, rfl, w8, ?_⟩
      have es : Tr a f (seqA a f k) 0 = seqA a f (k + 1) := by
        simp only [seqA]
        rw [if_neg ho]
      rw [es, v8]
      refine ⟨by omega, fun g12 e12 => ?_⟩
      rw [Int.toNat_natCast] at e12
      have w12 : wf g12 := by rw [e12]; exact w8.pa (by decide +kernel)
      have f12 : fr [38, 39] [(30, 11), (30, 12)] h g12 := (f8.mono (by decide) (by decide)).trans (by rw [e12]; exact fr.rfl.put (Or.inl (by decide)))
      have x12 : grP g12 a f := x.fr f12 (by decide) (by decide)
      have u11 : g12.2.2.2 30 11 = ((k + 1 : Nat) : Int) := by rw [e12, put_ne (by omega)]; exact v8
      have u12 : g12.2.2.2 30 12 = -1 := by rw [e12, put_ne (by omega), e8, put_ne (by omega), e7, put_ne (by omega)]; exact h12
      have u38 : ∀ i, i ≤ k + 1 → g12.2.2.2 38 i = nodeS (seqA a f i) := by
        intro i hi
        rw [e12]
        simp only [put_at, true_and]
        by_cases q : i = k + 1
        · rw [if_pos q, q]
        · rw [if_neg q, f8.c 38 (by decide) (by decide)]; exact h38 i (by omega)
      have u39 : ∀ j, g12.2.2.2 39 j = if j = (nodeS (seqA a f k)).toNat then (k : Int) else h.2.2.2 39 j := by
        intro j
        rw [e12, put_ne (by omega), e8, put_ne (by omega), e7]
        simp only [put_at, true_and]
      have p39 : ∀ i, i < k + 1 → g12.2.2.2 39 (nodeS (seqA a f i)).toNat = i := by
        intro i hi
        rw [u39]
        by_cases q : i = k
        · rw [q, if_pos rfl]
        · have h1 := on_144 r (seq_ok r i) (hno i (by omega))
          rw [if_neg]
          · exact h39 i (by omega)
          · intro e
            exact hnew i (by omega) (nodeS_inj (seq_ok r i).1 so.1 (fun q => hno i (by omega) (Or.inr q)) (by omega))
      have n39 : ∀ n : Nat, n < 180 → (∀ i, i < k + 1 → nodeS (seqA a f i) ≠ (n : Int)) → g12.2.2.2 39 n = -1 := by
        intro n hn q
        have := q k (by omega)
        rw [u39, if_neg (by omega)]
        exact h39n n hn (fun i hi => q i (by omega))
      have no1 : ∀ i, i < k + 1 → ¬ ovT a (seqA a f i) := by
        intro i hi
        by_cases q : i = k
        · rw [q]; exact ho
        · exact hno i (by omega)
      have d1 : ∀ i j, i < j → j < k + 1 → seqA a f i ≠ seqA a f j := by
        intro i j hij hj
        by_cases q : j = k
        · rw [q]; exact hnew i (by omega)
        · exact hd i j hij (by omega)
      have so1 := seq_ok r (k + 1)
      rw [u11]
      refine ⟨by omega, ?_⟩
      rw [Int.toNat_natCast, u38 (k + 1) (by omega)]
      refine k_gOn hs w12 x12.1 so1 ⟨_, rfl, w12, fun c2 => ?_, fun c2 => ?_⟩
      · have ho1 : ovT a (seqA a f (k + 1)) := by
          apply Decidable.byContradiction; intro q; rw [if_neg q] at c2; omega
        exact ih (k + 1) g12 (by omega) w12 x12 u11 u12 u38 p39 n39 no1 d1 (fun q => absurd ho1 q) (fun g n t wg fg => H g n t wg (f12.trans fg))
      · have ho1 : ¬ ovT a (seqA a f (k + 1)) := by
          intro q; rw [if_pos q] at c2; omega
        have nb1 := on_144 r so1 ho1
        rw [u11, Int.toNat_natCast, u38 (k + 1) (by omega)]
        refine ⟨by omega, by omega, fun g18 e18 => ?_⟩
        by_cases q : ∃ i, i < k + 1 ∧ seqA a f i = seqA a f (k + 1)
        · obtain ⟨i, hi, ei⟩ := q
          have pv := p39 i hi
          rw [ei] at pv
          rw [pv] at e18
          have z12 : g18.2.2.2 30 12 = (i : Int) := by rw [e18]; exact put_eq
          have z11 : g18.2.2.2 30 11 = ((k + 1 : Nat) : Int) := by rw [e18, put_ne (by omega)]; exact u11
          have w18 : wf g18 := by rw [e18]; exact w12.put np_30_12
          have fin : Q none g18 := by
            refine H g18 (k + 1) i w18 (f12.trans (by rw [e18]; exact fr.rfl.put (Or.inr (by decide)))) (Or.inr ⟨by omega, by rw [Int.toNat_natCast]; exact ei.symm, fun j hj => ?_, d1⟩) z11 z12 (fun j hj => by rw [e18, put_ne (by omega)]; exact u38 j hj) (by omega)
            by_cases q : j = k + 1
            · rw [q]; exact ho1
            · exact no1 j (by omega)
          refine w_Graph_leaveAlone_28 hs w18 ⟨fun _ => fin, fun _ => ⟨fun _ => fin, fun c => ?_⟩⟩
          rw [z12] at c; omega
        · have pv := n39 (nodeS (seqA a f (k + 1))).toNat (by omega) (fun i hi e => q ⟨i, hi, nodeS_inj (seq_ok r i).1 so1.1 (fun q => no1 i hi (Or.inr q)) (by omega)⟩)
          rw [pv] at e18
          have f18 : fr [] [(30, 12)] g12 g18 := by rw [e18]; exact fr.rfl.put (Or.inr (by decide))
          have z11 : g18.2.2.2 30 11 = ((k + 1 : Nat) : Int) := by rw [e18, put_ne (by omega)]; exact u11
          exact ih (k + 1) g18 (by omega) (by rw [e18]; exact w12.put np_30_12) (x12.fr f18 (by simp) (by decide)) z11 (by rw [e18]; exact put_eq) (fun i hi => by rw [f18.c 38 (by simp) (by decide)]; exact u38 i hi) (fun i hi => by rw [f18.c 39 (by simp) (by decide)]; exact p39 i hi) (fun n hn z => by rw [f18.c 39 (by simp) (by decide)]; exact n39 n hn z) no1 d1 (fun _ i hi e => q ⟨i, hi, e⟩) (fun g n t wg fg => H g n t wg ((f12.trans (f18.mono (by simp) (by decide))).trans fg))
theorem k_leaveAlone (hs : am_sc scr) (hw : wf h) (x : grP h a f) (r : rok a f B) (H : ∀ g (n : Nat) (t : Int), wf g → fr [38, 39] [(30, 11), (30, 12)] h g → LN a f n t → g.2.2.2 30 11 = n → g.2.2.2 30 12 = t → (∀ i, i ≤ n → g.2.2.2 38 i = nodeS (seqA a f i)) → n ≤ 180 → Q none g) : am_R (am_prog scr) (d + 2) f_Graph_leaveAlone 0 [some (.inr (.inr (((30) : Nat) : Int))), none] [] h Q := by
  refine w_Graph_leaveAlone_0 hs hw ?_
  refine k_fillI (n := 180) hs hw (by omega) (by decide +kernel) (by omega) (by decide +kernel) (fun g1 w1 f1 e1 => ⟨rfl, w1, fun g2 e2 g3 e3 g4 e4 => ?_⟩)
  have v5 : g3.2.2.2 30 5 = nodeS (stA a) := by
    rw [e3, put_ne (by omega), e2, put_ne (by omega), f1.f 30 5 (by decide) (by simp)]; exact x.2.1.1
  rw [v5] at e4
  have f4 : fr [38, 39] [(30, 11), (30, 12)] h g4 := (f1.mono (by decide) (by simp)).trans (by
    rw [e4, e3, e2]
    exact ((fr.rfl.put (Or.inr (by decide))).put (Or.inr (by decide))).put (Or.inl (by decide)))
  refine k_la_28 hs r 180 0 g4 rfl (by rw [e4, e3, e2]; exact ((w1.put np_30_11).put np_30_12).pa (by decide +kernel)) (x.fr f4 (by decide) (by decide)) ?_ ?_ (fun i hi => ?_) (fun i hi => by omega) (fun n hn _ => ?_) (fun i hi => by omega) (fun i j _ hj => by omega) (fun _ i hi => by omega) (fun g n t wg fg => H g n t wg (f4.trans fg))
  · rw [e4, put_ne (by omega), e3, put_ne (by omega), e2]; exact put_eq
  · rw [e4, put_ne (by omega), e3]; exact put_eq
  · rw [show i = 0 by omega, e4]; exact put_eq
  · rw [e4, put_ne (by omega), e3, put_ne (by omega), e2, put_ne (by omega), e1 n, if_pos hn]
end PK
