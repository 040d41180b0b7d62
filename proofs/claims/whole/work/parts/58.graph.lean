/-! the class: settings, nodes, the graph -/
def nodeS (st : Int) : Int := if st % 2 = 1 then 180 + actI st else (actI st * 6 + soundI st) * 6 + lastI st
def stN (n : Int) : Int := standI (n / 36) (n % 6) (n / 6 % 6) 0
theorem nodeS_e {st : Int} (h : 0 ≤ st ∧ st < 360) (he : ¬ st % 2 = 1) : (0 ≤ nodeS st ∧ nodeS st < 180) ∧ stN (nodeS st) = st ∧ nodeS st / 36 = actI st ∧ nodeS st % 6 = lastI st ∧ nodeS st / 6 % 6 = soundI st := by
  unfold nodeS
  rw [if_neg he]
  have h1 := lastI_b h.1
  have h2 := soundI_b h.1
  have h3 := actI_b h
  have e1 : ((actI st * 6 + soundI st) * 6 + lastI st) / 36 = actI st := by omega
  have e2 : ((actI st * 6 + soundI st) * 6 + lastI st) % 6 = lastI st := by omega
  have e3 : ((actI st * 6 + soundI st) * 6 + lastI st) / 6 % 6 = soundI st := by omega
  refine ⟨by omega, ?_, e1, e2, e3⟩
  unfold stN
  rw [e1, e2, e3]
  unfold standI actI lastI soundI
  omega
theorem nodeS_o {st : Int} (h : 0 ≤ st ∧ st < 360) (he : st % 2 = 1) : nodeS st = 180 + actI st ∧ 180 ≤ nodeS st ∧ nodeS st < 185 := by
  unfold nodeS
  rw [if_pos he]
  have h3 := actI_b h
  omega
theorem stN_b {n : Int} (h : 0 ≤ n ∧ n < 180) : (0 ≤ stN n ∧ stN n < 360) ∧ stN n % 2 = 0 ∧ nodeS (stN n) = n ∧ actI (stN n) = n / 36 ∧ lastI (stN n) = n % 6 ∧ soundI (stN n) = n / 6 % 6 := by
  unfold stN
  obtain ⟨c1, c2, c3, c4, c5⟩ := standI_of (x := n / 36) (l := n % 6) (s := n / 6 % 6) (t := 0) (by omega)
  refine ⟨c1, c5, ?_, c2, c3, c4⟩
  unfold nodeS
  rw [if_neg (by omega), c2, c3, c4]
  omega
theorem nodeS_inj {s t : Int} (hs : 0 ≤ s ∧ s < 360) (ht : 0 ≤ t ∧ t < 360) (e : ¬ s % 2 = 1) (q : nodeS s = nodeS t) : s = t := by
  have h1 := nodeS_e hs e
  by_cases e2 : t % 2 = 1
  · have := nodeS_o ht e2; omega
  · have h2 := nodeS_e ht e2
    rw [← h1.2.1, ← h2.2.1, q]
def setR (ser : Nat) (a : Nat → Int) : Nat → Int
  | 0 => (ser : Int)
  | k + 1 => setR ser a k * 128 + a (16 + k) * 16 + a (22 + k)
def settingI (ser : Nat) (a : Nat → Int) : Int := setR ser a 6 * 16 + a 28
section GR
variable {a b : Nat → Int} {f : Nat → (Nat → Int) → Int} {B : Int}
theorem setR_b {ser : Nat} (hs : ser ≤ 600) (ok : wok a f) : (0 ≤ setR ser a 0 ∧ setR ser a 0 < 601) ∧ (0 ≤ setR ser a 1 ∧ setR ser a 1 < 76928) ∧ (0 ≤ setR ser a 2 ∧ setR ser a 2 < 9846784) ∧ (0 ≤ setR ser a 3 ∧ setR ser a 3 < 1260388352) ∧ (0 ≤ setR ser a 4 ∧ setR ser a 4 < 161329709056) ∧ (0 ≤ setR ser a 5 ∧ setR ser a 5 < 20650202759168) ∧ (0 ≤ setR ser a 6 ∧ setR ser a 6 < 2643225953173504) := by
  have h0 := ok.2.2.2.2.1 0 (by omega)
  have h1 := ok.2.2.2.2.1 1 (by omega)
  have h2 := ok.2.2.2.2.1 2 (by omega)
  have h3 := ok.2.2.2.2.1 3 (by omega)
  have h4 := ok.2.2.2.2.1 4 (by omega)
  have h5 := ok.2.2.2.2.1 5 (by omega)
  simp only [setR]
  omega
theorem setting_inj {s t : Nat} (oa : wok a f) {f2 : Nat → (Nat → Int) → Int} (ob : wok b f2) (ha : 0 ≤ a 28 ∧ a 28 < 10) (hb : 0 ≤ b 28 ∧ b 28 < 10) (e : settingI s a = settingI t b) : s = t ∧ (∀ k, k < 6 → b (16 + k) = a (16 + k) ∧ b (22 + k) = a (22 + k)) ∧ b 28 = a 28 := by
  have st : ∀ k, k < 6 → setR s a (k + 1) = setR t b (k + 1) → setR s a k = setR t b k ∧ b (16 + k) = a (16 + k) ∧ b (22 + k) = a (22 + k) := by
    intro k hk e
    have h1 := oa.2.2.2.2.1 k hk
    have h2 := ob.2.2.2.2.1 k hk
    simp only [setR] at e
    omega
  unfold settingI at e
  have e6 : setR s a 6 = setR t b 6 := by omega
  have q5 := st 5 (by omega) e6
  have q4 := st 4 (by omega) q5.1
  have q3 := st 3 (by omega) q4.1
  have q2 := st 2 (by omega) q3.1
  have q1 := st 1 (by omega) q2.1
  have q0 := st 0 (by omega) q1.1
  refine ⟨by have := q0.1; simp only [setR] at this; omega, fun k hk => ?_, by omega⟩
  rcases (by omega : k = 0 ∨ k = 1 ∨ k = 2 ∨ k = 3 ∨ k = 4 ∨ k = 5) with rfl | rfl | rfl | rfl | rfl | rfl
  · exact q0.2
  · exact q1.2
  · exact q2.2
  · exact q3.2
  · exact q4.2
  · exact q5.2
theorem setting_0 {ser : Nat} (hs : ser ≤ 600) (ok : wok a f) (ha : 0 ≤ a 28 ∧ a 28 < 10) : 0 ≤ settingI ser a := by
  have := setR_b hs ok
  unfold settingI
  omega
/-- waking one who wouldn't snore else changes nothing -/
theorem snS_wk {hu st wk : Int} : ∀ n, snS a f hu st wk n = snS a f hu st (-1) n ∨ ((snS a f hu st (-1) n).1 = wk ∧ (snS a f hu st wk n).2 ≤ (snS a f hu st (-1) n).2 ∧ wk < (n : Int)) := by
  intro n
  induction n with
  | zero => exact Or.inl rfl
  | succ n ih =>
    simp only [snS]
    by_cases c1 : (n : Int) = lastI st
    · rw [if_pos c1, if_pos c1]
      rcases ih with q | q
      · exact Or.inl q
      · exact Or.inr ⟨q.1, q.2.1, by omega⟩
    · rw [if_neg c1, if_neg c1, if_neg (show ¬ (n : Int) = -1 by omega)]
      by_cases c2 : (n : Int) = wk
      · rw [if_pos c2]
        rcases ih with q | q
        · rw [q]
          by_cases c3 : (snS a f hu st (-1) n).2 < wouldS a f hu st n
          · rw [if_pos c3]
            exact Or.inr ⟨c2, by simp only; omega, by omega⟩
          · rw [if_neg c3]; exact Or.inl rfl
        · omega
      · rw [if_neg c2]
        rcases ih with q | q
        · rw [q]; exact Or.inl rfl
        · by_cases c3 : (snS a f hu st (-1) n).2 < wouldS a f hu st n
          · rw [if_pos (by omega), if_pos c3]; exact Or.inl rfl
          · rw [if_neg c3]
            refine Or.inr ⟨q.1, ?_, by omega⟩
            split
            · simp only; omega
            · omega
theorem snor_wk {hu st wk : Int} (h : snorS a f hu st (-1) ≠ wk) : snorS a f hu st wk = snorS a f hu st (-1) := by
  unfold snorS at h ⊢
  rcases snS_wk (a := a) (f := f) (hu := hu) (st := st) (wk := wk) (a 4).toNat with q | q
  · rw [q]
  · exact absurd q.1 h
theorem beat_wk {hu st wk : Int} (h : snorS a f hu st (-1) ≠ wk) : beatS a f hu st wk = beatS a f hu st (-1) := by
  unfold beatS
  rw [snor_wk h]
/-- stands that some row comes to -/
def rchN (a : Nat → Int) (f : Nat → (Nat → Int) → Int) : Nat → Int → Prop
  | 0, st => st = stA a
  | n + 1, st => ∃ s e, rchN a f n s ∧ ¬ ovT a s ∧ (0 ≤ e ∧ e ≤ a 4) ∧ st = Tr a f s e
def Rch (a : Nat → Int) (f : Nat → (Nat → Int) → Int) (st : Int) : Prop := ∃ n, rchN a f n st
theorem Rch.zero : Rch a f (stA a) := ⟨0, rfl⟩
theorem Rch.step {s e : Int} (x : Rch a f s) (ho : ¬ ovT a s) (he : 0 ≤ e ∧ e ≤ a 4) : Rch a f (Tr a f s e) := by
  obtain ⟨n, hn⟩ := x
  exact ⟨n + 1, s, e, hn, ho, he, rfl⟩
theorem Rch.ok (r : rok a f B) {st : Int} (x : Rch a f st) : stOk a st := by
  obtain ⟨n, hn⟩ := x
  induction n generalizing st with
  | zero => rw [hn]; exact r.ok
  | succ n ih =>
    obtain ⟨s, e, h1, h2, h3, h4⟩ := hn
    rw [h4]
    exact Tr_ok r (ih h1) h2
/-- where it goes on, there are sleepers -/
theorem Rch.n4 (r : rok a f B) {st : Int} (x : Rch a f st) (ho : ¬ ovT a st) : a 4 ≠ 0 := by
  intro e
  have h := r.2.2.1.2.2.2.2.2 e
  have o : ovT a (stA a) := Or.inr (by rw [r.st.2.2.2.2]; exact h)
  obtain ⟨n, hn⟩ := x
  have : ∀ n st, rchN a f n st → ovT a st := by
    intro n
    induction n with
    | zero => intro st q; rw [q]; exact o
    | succ n ih =>
      intro st q
      obtain ⟨s, e, h1, h2, h3, h4⟩ := q
      exact absurd (ih s h1) h2
  exact ho (this n st hn)
theorem Tr_two {s e : Int} (he : 0 ≤ e) : (e - 1 = snorS a f (a 28) s (-1) ∧ Tr a f s e = beatS a f (a 28) s (snorS a f (a 28) s (-1))) ∨ (e - 1 ≠ snorS a f (a 28) s (-1) ∧ Tr a f s e = beatS a f (a 28) s (-1)) := by
  unfold Tr
  by_cases q : e - 1 = snorS a f (a 28) s (-1)
  · exact Or.inl ⟨q, by rw [q]⟩
  · exact Or.inr ⟨q, beat_wk (fun c => q c.symm)⟩
end GR
/-- what is known of what follows a node -/
def nxOK (h : am_H) (a : Nat → Int) (f : Nat → (Nat → Int) → Int) (n : Nat) : Prop := stOk a (stN n) ∧ ¬ ovT a (stN n) ∧ h.2.2.2 34 n = nodeS (beatS a f (a 28) (stN n) (-1)) ∧ h.2.2.2 35 n = nodeS (beatS a f (a 28) (stN n) (snorS a f (a 28) (stN n) (-1)))
def nxA (h : am_H) (a : Nat → Int) (f : Nat → (Nat → Int) → Int) : Prop := ∀ n, n < 180 → h.2.2.2 34 n = -1 ∨ nxOK h a f n
/-- the graph is set for house, beds, dreams, hush of a -/
def gset (h : am_H) (W : Wd) (ser : Nat) (a : Nat → Int) (B : Int) : Prop := (ser ≤ W.1 ∧ ∀ j, j < 8 → a j = W.2.1 ser j) ∧ (∃ st, (0 ≤ st ∧ st < 360) ∧ plC h 31 (W.2.2.2 ser) a (a 28) st) ∧ (0 ≤ h.2.2.2 31 7 ∧ h.2.2.2 31 7 ≤ B) ∧ nxA h a (W.2.2.1 ser)
def ghs (h : am_H) (a : Nat → Int) : Prop := am_isO h (h.2.2.2 31 0) 1 ∧ h.2.2.2 (h.2.2.2 31 0).toNat 3 = a 3 ∧ h.2.2.2 (h.2.2.2 31 0).toNat 4 = a 4 ∧ (133 ≤ (h.2.2.2 31 0).toNat ∨ (h.2.2.2 31 0).toNat = 21)
/-- all that can follow from the row a has been worked out -/
def gprep (h : am_H) (a : Nat → Int) (f : Nat → (Nat → Int) → Int) : Prop := h.2.2.2 30 5 = nodeS (stA a) ∧ (0 ≤ h.2.2.2 30 7 ∧ h.2.2.2 30 7 ≤ 180) ∧ (∀ i : Nat, (i : Int) < h.2.2.2 30 7 → ∃ st, Rch a f st ∧ ¬ ovT a st ∧ h.2.2.2 36 i = nodeS st ∧ h.2.2.2 34 (nodeS st).toNat ≠ -1) ∧ (∀ st, Rch a f st → ¬ ovT a st → ∃ i : Nat, (i : Int) < h.2.2.2 30 7 ∧ h.2.2.2 36 i = nodeS st) ∧ ∀ i j : Nat, i < j → (j : Int) < h.2.2.2 30 7 → h.2.2.2 36 i ≠ h.2.2.2 36 j
def grP (h : am_H) (a : Nat → Int) (f : Nat → (Nat → Int) → Int) : Prop := ghs h a ∧ gprep h a f ∧ nxA h a f
def grI (h : am_H) (W : Wd) (B : Int) : Prop := h.2.2.2 30 4 = -1 ∨ ∃ ser a, rok a (W.2.2.1 ser) B ∧ h.2.2.2 30 4 = settingI ser a ∧ gset h W ser a B ∧ gprep h a (W.2.2.1 ser)
section GF
variable {h g : am_H} {W : Wd} {ser : Nat} {a b : Nat → Int} {f : Nat → (Nat → Int) → Int} {B C : Int} {L : List Nat} {F : List (Nat × Nat)}
theorem nxA.fr (x : nxA h a f) (e1 : ∀ j, j < 180 → g.2.2.2 34 j = h.2.2.2 34 j) (e2 : ∀ j, j < 180 → g.2.2.2 35 j = h.2.2.2 35 j) : nxA g a f := by
  intro n hn
  rw [e1 n hn]
  rcases x n hn with q | q
  · exact Or.inl q
  · refine Or.inr ⟨q.1, q.2.1, ?_, ?_⟩
    · rw [e1 n hn]; exact q.2.2.1
    · rw [e2 n hn]; exact q.2.2.2
theorem gprep.fr (x : gprep h a f) (e1 : g.2.2.2 30 5 = h.2.2.2 30 5) (e2 : g.2.2.2 30 7 = h.2.2.2 30 7) (e3 : g.2.2.2 36 = h.2.2.2 36) (e4 : g.2.2.2 34 = h.2.2.2 34) : gprep g a f := by
  unfold gprep
  rw [e1, e2, e3, e4]
  exact x
theorem ghs.fr (x : ghs h a) (q : fr L F h g) (h1 : ∀ x ∈ L, x < 133 ∧ x ≠ 21 ∧ x ≠ 31) (h2 : ∀ x ∈ F, x.1 < 133 ∧ x.1 ≠ 21 ∧ x.1 ≠ 31) : ghs g a := by
  obtain ⟨x1, x2, x3, x4⟩ := x
  have e31 : g.2.2.2 31 0 = h.2.2.2 31 0 := q.f 31 0 (fun y => (h1 _ y).2.2 rfl) (fun y => (h2 _ y).2.2 rfl)
  have eh : ∀ j, g.2.2.2 (h.2.2.2 31 0).toNat j = h.2.2.2 (h.2.2.2 31 0).toNat j := fun j => q.f _ j (fun y => by have := h1 _ y; omega) (fun y => by have := h2 _ y; simp only at this; omega)
  unfold ghs
  rw [e31, eh, eh]
  exact ⟨⟨x1.1, by rw [q.2.2.1]; exact x1.2⟩, x2, x3, x4⟩
theorem grP.fr (x : grP h a f) (q : fr L F h g) (h1 : ∀ x ∈ L, x < 133 ∧ x ≠ 21 ∧ x ≠ 31 ∧ x ≠ 30 ∧ x ≠ 34 ∧ x ≠ 35 ∧ x ≠ 36) (h2 : ∀ x ∈ F, x.1 < 133 ∧ x.1 ≠ 21 ∧ x.1 ≠ 31 ∧ (x.1 = 30 → x.2 ≠ 5 ∧ x.2 ≠ 7) ∧ x.1 ≠ 34 ∧ x.1 ≠ 35 ∧ x.1 ≠ 36) : grP g a f := by
  have e34 : g.2.2.2 34 = h.2.2.2 34 := q.c 34 (fun y => (h1 _ y).2.2.2.2.1 rfl) (fun y hy => (h2 _ hy).2.2.2.2.1)
  have e35 : g.2.2.2 35 = h.2.2.2 35 := q.c 35 (fun y => (h1 _ y).2.2.2.2.2.1 rfl) (fun y hy => (h2 _ hy).2.2.2.2.2.1)
  have e36 : g.2.2.2 36 = h.2.2.2 36 := q.c 36 (fun y => (h1 _ y).2.2.2.2.2.2 rfl) (fun y hy => (h2 _ hy).2.2.2.2.2.2)
  have e5 : g.2.2.2 30 5 = h.2.2.2 30 5 := q.f 30 5 (fun y => (h1 _ y).2.2.2.1 rfl) (fun y => ((h2 _ y).2.2.2.1 rfl).1 rfl)
  have e7 : g.2.2.2 30 7 = h.2.2.2 30 7 := q.f 30 7 (fun y => (h1 _ y).2.2.2.1 rfl) (fun y => ((h2 _ y).2.2.2.1 rfl).2 rfl)
  exact ⟨x.1.fr q (fun y hy => ⟨(h1 y hy).1, (h1 y hy).2.1, (h1 y hy).2.2.1⟩) (fun y hy => ⟨(h2 y hy).1, (h2 y hy).2.1, (h2 y hy).2.2.1⟩), x.2.1.fr e5 e7 e36 e34, x.2.2.fr (fun j _ => by rw [e34]) (fun j _ => by rw [e35])⟩
theorem grI.fr (x : grI h W B) (q : fr L F h g) (h1 : ∀ x ∈ L, x < 30 ∨ 36 < x) (h2 : ∀ x ∈ F, x.1 < 30 ∨ (x.1 = 30 ∧ x.2 ≠ 4 ∧ x.2 ≠ 5 ∧ x.2 ≠ 7) ∨ 36 < x.1) (hBC : B ≤ C) : grI g W C := by
  have ec : ∀ c, 31 ≤ c → c ≤ 36 → g.2.2.2 c = h.2.2.2 c := fun c c1 c2 => q.c c (fun y => by have := h1 _ y; omega) (fun y hy => by have := h2 _ hy; omega)
  have e30 : ∀ j, j = 4 ∨ j = 5 ∨ j = 7 → g.2.2.2 30 j = h.2.2.2 30 j := fun j hj => q.f 30 j (fun y => by have := h1 _ y; omega) (fun y => by have := h2 _ y; simp only at this; omega)
  unfold grI
  rw [e30 4 (by omega)]
  rcases x with x | ⟨ser, a, x1, x2, x3, x4⟩
  · exact Or.inl x
  · refine Or.inr ⟨ser, a, x1.le hBC, x2, ⟨x3.1, ?_, ?_, ?_⟩, x4.fr (e30 5 (by omega)) (e30 7 (by omega)) (ec 36 (by omega) (by omega)) (ec 34 (by omega) (by omega))⟩
    · obtain ⟨st, s1, s2⟩ := x3.2.1
      refine ⟨st, s1, ?_⟩
      unfold plC at s2 ⊢
      rw [ec 31 (by omega) (by omega), ec (31 + 1) (by omega) (by omega), ec (31 + 2) (by omega) (by omega)]
      exact s2
    · rw [ec 31 (by omega) (by omega)]
      have := x3.2.2.1
      omega
    · exact x3.2.2.2.fr (fun j _ => by rw [ec 34 (by omega) (by omega)]) (fun j _ => by rw [ec 35 (by omega) (by omega)])
theorem gset.ho (x : gset h W ser a B) (w : wc h W) : ghs h a ∧ hsC h (W.2.2.2 ser) a (W.2.2.1 ser) ∧ lwS (LWo W) W.1 (h.2.2.2 (W.2.2.2 ser) 0) a (W.2.2.1 ser) := by
  obtain ⟨st, s1, s2⟩ := x.2.1
  have px : plW h W 31 ser (fun j => if j = 14 then actI st else if j = 12 then lastI st else if j = 13 then soundI st else if j = 15 then st % 2 else if j = 29 then h.2.2.2 31 7 else a j) := by
    refine ⟨x.1.1, fun j hj => ?_, ?_, rfl⟩
    · simp only
      rw [if_neg (by omega), if_neg (by omega), if_neg (by omega), if_neg (by omega), if_neg (by omega)]
      exact x.1.2 j hj
    · have e : stA (fun j => if j = 14 then actI st else if j = 12 then lastI st else if j = 13 then soundI st else if j = 15 then st % 2 else if j = 29 then h.2.2.2 31 7 else a j) = st := by
        show standI (actI st) (lastI st) (soundI st) (st % 2) = st
        unfold standI actI lastI soundI
        omega
      rw [e]
      refine s2.row (fun j hj => ?_)
      rw [if_neg (by omega), if_neg (by omega), if_neg (by omega), if_neg (by omega), if_neg (by omega)]
  obtain ⟨hh, hl⟩ := px.hs w
  have hh2 : hsC h (W.2.2.2 ser) a (W.2.2.1 ser) := hh.row (fun j hj => by
    rw [if_neg (by omega), if_neg (by omega), if_neg (by omega), if_neg (by omega), if_neg (by omega)])
  have o := hs_o hh2 s2
  refine ⟨⟨o.1, ?_, ?_, ?_⟩, hh2, hl⟩
  · rw [o.2]; exact hh2.2.2.2.2.1
  · rw [o.2]; exact hh2.2.2.2.2.2.1
  · rw [o.2]; exact hh2.1
end GF
section GK
variable {scr : Nat × (Nat → Int)} {d : Nat} {h : am_H} {Q : Option am_V → am_H → Prop} {W : Wd} {p ser : Nat} {a b : Nat → Int} {f : Nat → (Nat → Int) → Int} {B : Int}
theorem k_setting (hs : am_sc scr) (hw : wf h) (hp : p ∈ PL) (w : wc h W) (x : plW h W p ser a) (r : rok a f B) (H : Q (some (.inr (.inl (settingI ser a)))) h) : am_R (am_prog scr) d f_Play_setting 0 [some (.inr (.inr (((p) : Nat) : Int))), none, none, none] [] h Q := by
  obtain ⟨o1, o2, o3, o4⟩ := hs_oW w x
  have hser : h.2.2.2 (W.2.2.2 ser) 0 = (ser : Int) := (w.2.1.2 ser x.1).2.1
  have s6 : ser ≤ 600 := Nat.le_trans x.1 w.1
  have sb := setR_b s6 r.1
  have x3 := x.2.2.1
  refine w_Play_setting_0 hp hs hw ⟨o1, fun y hy => ?_⟩
  rw [o2, hser] at hy
  have lp : ∀ (m k : Nat), k + m = 6 → am_R (am_prog scr) d f_Play_setting 11 [some (.inr (.inr (((p) : Nat) : Int))), some (.inr (.inl (setR ser a k))), none, some (.inl ((k : Int)))] [] h Q := by
    intro m
    induction m with
    | zero =>
      intro k hk
      obtain rfl : k = 6 := by omega
      refine w_Play_setting_11 hp hs hw ⟨fun _ => ?_, fun c => by omega⟩
      rw [x3.2.2.1, set_end (by omega) r.2.2.2.1]
      exact H
    | succ m ih =>
      intro k hk
      have kb := r.1.2.2.2.2.1 k (by omega)
      refine w_Play_setting_11 hp hs hw ⟨fun c => by omega, fun _ => ⟨by omega, by omega, fun y3 e3 y4 e4 => ?_⟩⟩
      rw [Int.toNat_natCast, (x3.2.1 k (by omega)).1, (x3.2.1 k (by omega)).2, set_step ?_ kb.1 kb.2] at e3
      · rw [am_w_id (by omega) (by omega)] at e4
        obtain rfl : y4 = ((k + 1 : Nat) : Int) := by omega
        subst e3
        exact ih (k + 1) (by omega)
      · rcases (by omega : k = 0 ∨ k = 1 ∨ k = 2 ∨ k = 3 ∨ k = 4 ∨ k = 5) with rfl | rfl | rfl | rfl | rfl | rfl <;> omega
  have := lp 6 0 rfl
  rw [hy]
  exact this
theorem k_node {hid : Nat} {hu st : Int} (hs : am_sc scr) (hw : wf h) (hp : p ∈ PL) (x : plC h p hid a hu st) (hst : 0 ≤ st ∧ st < 360) (hn : a 4 ≠ 0 ∨ st % 2 = 1) (H : Q (some (.inl (nodeS st))) h) : am_R (am_prog scr) d f_Play_node 0 [some (.inr (.inr (((p) : Nat) : Int)))] [] h Q := by
  obtain ⟨x1, x2, x3, x4, x5, x6, x7⟩ := x
  have h1 := lastI_b hst.1
  have h2 := soundI_b hst.1
  have h3 := actI_b hst
  refine w_Play_node_0 hp hs hw ?_
  rw [x7, x6, x5, x4]
  refine ⟨fun c => ?_, fun c => ?_⟩
  · unfold nodeS at H
    rw [if_neg (by omega)] at H
    rw [if_neg (by omega)]
    simp (disch := omega) only [am_w_id, am_W_id]
    exact H
  · unfold nodeS at H
    rw [if_pos (by omega)] at H
    rw [am_w_id (by omega) (by omega)]
    exact H
theorem k_standAt {hid : Nat} {hu st n : Int} (hs : am_sc scr) (hw : wf h) (hp : p ∈ PL) (x : plC h p hid a hu st) (hn : 0 ≤ n ∧ n < 180) (h4 : a 4 ≠ 0) (H : ∀ g, wf g → fr [p] [] h g → plC g p hid a hu (stN n) → g.2.2.2 p 7 = h.2.2.2 p 7 → Q none g) : am_R (am_prog scr) d f_Play_standAt 0 [some (.inr (.inr (((p) : Nat) : Int))), some (.inl (n))] [] h Q := by
  obtain ⟨x1, x2, x3, x4, x5, x6, x7⟩ := x
  obtain ⟨c1, c2, c3, c4, c5, c6⟩ := stN_b hn
  refine w_Play_standAt_0 hp hs hw (fun g1 e1 g2 e2 g3 e3 g4 e4 => ?_)
  rw [tm (by omega)] at e1
  rw [td (by omega), am_w_id (by omega) (by omega), tm (by omega)] at e2
  rw [td (by omega), am_w_id (by omega) (by omega)] at e3
  have w4 : wf g4 := by
    rw [e4, e3, e2, e1]
    exact (((hw.put (pl_np hp (by omega))).put (pl_np hp (by omega))).put (pl_np hp (by omega))).put (pl_np hp (by omega))
  have f4 : fr [p] [] h g4 := by
    rw [e4, e3, e2, e1]
    exact (((fr.rfl.put (Or.inl (by simp))).put (Or.inl (by simp))).put (Or.inl (by simp))).put (Or.inl (by simp))
  have cc : ∀ j, g4.2.2.2 p j = if j = 8 then 0 else if j = 6 then n / 36 else if j = 5 then n / 6 % 6 else if j = 4 then n % 6 else h.2.2.2 p j := by
    intro j
    rw [e4, e3, e2, e1]
    simp only [put_at, true_and]
  refine H g4 w4 f4 ⟨by rw [cc]; exact x1, fun s hs2 => ⟨?_, ?_⟩, by rw [cc]; exact x3, ?_, ?_, ?_, ?_⟩ (by rw [cc]; rfl)
  · rw [f4.f (p + 1) s (by simp) (by simp)]; exact (x2 s hs2).1
  · rw [f4.f (p + 2) s (by simp) (by simp)]; exact (x2 s hs2).2
  · rw [cc, if_neg h4, c5]; rfl
  · rw [cc, c6]; rfl
  · rw [cc, c4]; rfl
  · rw [cc, c2]; rfl
theorem k_gStill {n : Int} (hs : am_sc scr) (hw : wf h) (H : Q (some (.inl (if n < 180 then 0 else 1))) h) : am_R (am_prog scr) d f_Graph_isStill 0 [some (.inr (.inr (((30) : Nat) : Int))), some (.inl (n))] [] h Q := by
  refine w_Graph_isStill_0 hs hw ⟨fun c => ?_, fun c => ?_⟩
  · rw [if_pos c] at H; exact H
  · rw [if_neg c] at H; exact H
theorem k_gEndN {n : Int} (hs : am_sc scr) (hw : wf h) (x : ghs h a) (hn : 0 ≤ n ∧ n < 185) (H : Q (some (.inl (if n < 180 ∧ a 3 ≤ n / 36 then 1 else 0))) h) : am_R (am_prog scr) d f_Graph_isEnd 0 [some (.inr (.inr (((30) : Nat) : Int))), some (.inl (n))] [] h Q := by
  refine w_Graph_isEnd_0 hs hw ⟨fun c => ?_, fun c => ⟨x.1, ?_⟩⟩
  · rw [if_neg (by omega)] at H; exact H
  · rw [td hn.1, am_w_id (by omega) (by omega), x.2.1]
    refine ⟨fun c2 => ?_, fun c2 => ?_⟩
    · rw [if_neg (by omega)] at H; exact H
    · rw [if_pos (by omega)] at H; exact H
theorem k_gOnN {n : Int} (hs : am_sc scr) (hw : wf h) (x : ghs h a) (hn : 0 ≤ n ∧ n < 185) (H : Q (some (.inl (if n < 180 ∧ n / 36 < a 3 then 1 else 0))) h) : am_R (am_prog scr) (d + 1) f_Graph_goesOn 0 [some (.inr (.inr (((30) : Nat) : Int))), some (.inl (n))] [] h Q := by
  refine w_Graph_goesOn_0 hs hw ?_
  refine k_gStill hs hw ⟨_, rfl, hw, fun c => ?_, fun c => ?_⟩
  · rw [if_neg (fun q => c (by rw [if_pos q.1]))] at H; exact H
  · have c1 : n < 180 := by
      apply Decidable.byContradiction; intro q; rw [if_neg q] at c; omega
    refine k_gEndN hs hw x hn ⟨_, rfl, hw, fun c2 => ?_, fun c2 => ?_⟩
    · rw [i0, Decidable.not_not] at c2
      rw [if_neg (by omega)] at H; exact H
    · rw [i0] at c2
      rw [if_pos (by omega)] at H; exact H
theorem on_iff {st : Int} (h1 : stOk a st) : (nodeS st < 180 ∧ nodeS st / 36 < a 3) ↔ ¬ ovT a st := by
  by_cases q : st % 2 = 1
  · have := nodeS_o h1.1 q
    constructor
    · intro c; omega
    · intro c; exact absurd (Or.inr q) c
  · have := nodeS_e h1.1 q
    have h2 := h1.2.1
    constructor
    · intro c o
      rcases o with o | o <;> omega
    · intro c
      have : actI st ≠ a 3 := fun e => c (Or.inl e)
      omega
theorem end_iff {st : Int} (h1 : stOk a st) : (nodeS st < 180 ∧ a 3 ≤ nodeS st / 36) ↔ actI st = a 3 := by
  have h2 := h1.2.1
  by_cases q : st % 2 = 1
  · have := nodeS_o h1.1 q
    have := h1.2.2.2.2 q
    omega
  · have := nodeS_e h1.1 q
    omega
theorem node_b {st : Int} (h1 : 0 ≤ st ∧ st < 360) : 0 ≤ nodeS st ∧ nodeS st < 185 := by
  by_cases q : st % 2 = 1
  · have := nodeS_o h1 q; omega
  · have := nodeS_e h1 q; omega
theorem k_gOn {st : Int} (hs : am_sc scr) (hw : wf h) (x : ghs h a) (h1 : stOk a st) (H : Q (some (.inl (if ovT a st then 0 else 1))) h) : am_R (am_prog scr) (d + 1) f_Graph_goesOn 0 [some (.inr (.inr (((30) : Nat) : Int))), some (.inl (nodeS st))] [] h Q := by
  refine k_gOnN hs hw x (node_b h1.1) ?_
  by_cases q : ovT a st
  · rw [if_pos q] at H
    rw [if_neg (fun c => (on_iff h1).mp c q)]; exact H
  · rw [if_neg q] at H
    rw [if_pos ((on_iff h1).mpr q)]; exact H
theorem k_gEnd {st : Int} (hs : am_sc scr) (hw : wf h) (x : ghs h a) (h1 : stOk a st) (H : Q (some (.inl (if actI st = a 3 then 1 else 0))) h) : am_R (am_prog scr) d f_Graph_isEnd 0 [some (.inr (.inr (((30) : Nat) : Int))), some (.inl (nodeS st))] [] h Q := by
  refine k_gEndN hs hw x (node_b h1.1) ?_
  by_cases q : actI st = a 3
  · rw [if_pos q] at H
    rw [if_pos ((end_iff h1).mpr q)]; exact H
  · rw [if_neg q] at H
    rw [if_neg (fun c => q ((end_iff h1).mp c))]; exact H
theorem k_gLast {n : Int} (hs : am_sc scr) (hw : wf h) (hn : 0 ≤ n) (H : Q (some (.inl (n % 6))) h) : am_R (am_prog scr) d f_Graph_lastOf 0 [some (.inr (.inr (((30) : Nat) : Int))), some (.inl (n))] [] h Q := by
  refine w_Graph_lastOf_0 hs hw ?_
  rw [tm hn]; exact H
theorem k_gSound {n : Int} (hs : am_sc scr) (hw : wf h) (hn : 0 ≤ n ∧ n < 1000) (H : Q (some (.inl (n / 6 % 6))) h) : am_R (am_prog scr) d f_Graph_soundOf 0 [some (.inr (.inr (((30) : Nat) : Int))), some (.inl (n))] [] h Q := by
  refine w_Graph_soundOf_0 hs hw ?_
  rw [td hn.1, am_w_id (by omega) (by omega), tm (by omega)]; exact H
theorem k_gAct {n : Int} (hs : am_sc scr) (hw : wf h) (hn : 0 ≤ n ∧ n < 185) (H : Q (some (.inl (if n < 180 then n / 36 else n - 180))) h) : am_R (am_prog scr) (d + 1) f_Graph_actOf 0 [some (.inr (.inr (((30) : Nat) : Int))), some (.inl (n))] [] h Q := by
  refine w_Graph_actOf_0 hs hw ?_
  refine k_gStill hs hw ⟨_, rfl, hw, fun c => ?_, fun c => ?_⟩
  · have c1 : n < 180 := by
      apply Decidable.byContradiction; intro q; rw [if_neg q] at c; omega
    rw [if_pos c1] at H
    rw [td hn.1, am_w_id (by omega) (by omega)]; exact H
  · have c1 : ¬ n < 180 := fun q => c (by rw [if_pos q])
    rw [if_neg c1] at H
    rw [am_w_id (by omega) (by omega)]; exact H
theorem k_gSleepers (hs : am_sc scr) (hw : wf h) (x : ghs h a) (H : Q (some (.inl (a 4))) h) : am_R (am_prog scr) d f_Graph_sleepers 0 [some (.inr (.inr (((30) : Nat) : Int)))] [] h Q := by
  refine w_Graph_sleepers_0 hs hw ⟨x.1, ?_⟩
  rw [x.2.2.1]; exact H
/-- the node behind a beat -/
theorem k_after {st e : Int} (hs : am_sc scr) (hw : wf h) (x : nxA h a f) (r : rok a f B) (h1 : stOk a st) (ho : ¬ ovT a st) (hk : h.2.2.2 34 (nodeS st).toNat ≠ -1) (he : 0 ≤ e ∧ e < 100) (H : Q (some (.inl (nodeS (Tr a f st e)))) h) : am_R (am_prog scr) (d + 1) f_Graph_after 0 [some (.inr (.inr (((30) : Nat) : Int))), some (.inl (nodeS st)), some (.inl (e)), none] [] h Q := by
  have ev : ¬ st % 2 = 1 := fun q => ho (Or.inr q)
  obtain ⟨n1, n2, n3, n4, n5⟩ := nodeS_e h1.1 ev
  have en : stN (((nodeS st).toNat : Nat) : Int) = st := by rw [show (((nodeS st).toNat : Nat) : Int) = nodeS st by omega]; exact n2
  have nx : nxOK h a f (nodeS st).toNat := by
    rcases x (nodeS st).toNat (by omega) with q | q
    · exact absurd q hk
    · exact q
  obtain ⟨y1, y2, y3, y4⟩ := nx
  rw [en] at y1 y2 y3 y4
  have ok0 := beatS_ok r.1 h1 ho (hu := a 28) (wk := -1)
  refine w_Graph_after_0 hs hw ⟨fun c => by omega, fun _ => ⟨fun c => by omega, fun _ => ⟨by omega, fun _ => ⟨by omega, fun y hy => ?_⟩, fun c => absurd c hk⟩⟩⟩
  rw [y3] at hy
  subst hy
  have tw := Tr_two (a := a) (f := f) (s := st) (e := e) he.1
  have hb := snorS_b r.1 (hu := a 28) (wk := -1) h1.1.1
  have hb2 : beatS a f (a 28) st (-1) % 2 = 1 ∧ snorS a f (a 28) st (-1) = -1 ∨ ¬ beatS a f (a 28) st (-1) % 2 = 1 ∧ lastI (beatS a f (a 28) st (-1)) = snorS a f (a 28) st (-1) ∧ snorS a f (a 28) st (-1) ≠ -1 := by
    have o1 := r.1.1
    have o2 := r.1.2.1
    have o3 := r.1.2.2.1
    have tb := toneS_b r.1 (hu := a 28) (st := st) (s := snorS a f (a 28) st (-1))
    have a3 : actI st ≠ a 3 := fun e => ho (Or.inl e)
    have a4 := h1.2.1
    have a5 := actI_b h1.1
    unfold beatS
    by_cases q : snorS a f (a 28) st (-1) = -1
    · rw [if_pos q]; exact Or.inl ⟨by omega, q⟩
    · rw [if_neg q]
      have h7 : 0 ≤ (if toneS a f (a 28) st (snorS a f (a 28) st (-1)) = a 5 then (1 : Int) else 0) ∧ (if toneS a f (a 28) st (snorS a f (a 28) st (-1)) = a 5 then (1 : Int) else 0) ≤ 1 := by split <;> omega
      generalize (if toneS a f (a 28) st (snorS a f (a 28) st (-1)) = a 5 then (1 : Int) else 0) = z at h7
      obtain ⟨c1, c2, c3, c4, c5⟩ := standI_of (x := actI st + z) (l := snorS a f (a 28) st (-1)) (s := toneS a f (a 28) st (snorS a f (a 28) st (-1))) (t := 0) (by omega)
      exact Or.inr ⟨by omega, c3, q⟩
  refine k_gStill hs hw ⟨_, rfl, hw, fun c => ?_, fun c => ?_⟩
  · have c1 : ¬ nodeS (beatS a f (a 28) st (-1)) < 180 := fun q => c (by rw [if_pos q])
    have st1 : beatS a f (a 28) st (-1) % 2 = 1 := by
      apply Decidable.byContradiction; intro q; have := nodeS_e ok0.1 q; omega
    have sn : snorS a f (a 28) st (-1) = -1 := by
      rcases hb2 with q | q
      · exact q.2
      · exact absurd st1 q.1
    rcases tw with ⟨t1, t2⟩ | ⟨t1, t2⟩
    · rw [sn] at t2; rw [t2] at H; exact H
    · rw [t2] at H; exact H
  · have c1 : nodeS (beatS a f (a 28) st (-1)) < 180 := by
      apply Decidable.byContradiction; intro q; rw [if_neg q] at c; omega
    have nst : ¬ beatS a f (a 28) st (-1) % 2 = 1 := fun q => by have := nodeS_o ok0.1 q; omega
    have ne := nodeS_e ok0.1 nst
    have sn : lastI (beatS a f (a 28) st (-1)) = snorS a f (a 28) st (-1) := by
      rcases hb2 with q | q
      · exact absurd q.1 nst
      · exact q.2.1
    refine k_gLast hs hw (by omega) ⟨_, rfl, hw, ?_⟩
    rw [ne.2.2.2.1, sn, am_w_id (by omega) (by omega)]
    refine ⟨fun c2 => ?_, fun c2 => ⟨by omega, ?_⟩⟩
    · rcases tw with ⟨t1, t2⟩ | ⟨t1, t2⟩
      · exact absurd t1.symm c2
      · rw [t2] at H; exact H
    · rcases tw with ⟨t1, t2⟩ | ⟨t1, t2⟩
      · rw [t2, ← y4] at H; exact H
      · exact absurd c2.symm t1
end GK
