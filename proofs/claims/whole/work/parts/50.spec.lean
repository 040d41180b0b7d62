/-! rows: what stands in them, deeds on them -/
def stA (a : Nat → Int) : Int := standI (a 14) (a 12) (a 13) (a 15)
abbrev ovA (a : Nat → Int) : Prop := a 14 = a 3 ∨ a 15 = 1
def bedOK (a : Nat → Int) : Prop := (1 ≤ a 1 ∧ a 1 ≤ 6) ∧ a 4 ≤ a 1 ∧ (∀ s : Nat, s < 6 → (s : Int) < a 4 → a (16 + s) < a 1) ∧ ∀ s t : Nat, s < 6 → t < 6 → (s : Int) < a 4 → (t : Int) < a 4 → s ≠ t → a (16 + s) ≠ a (16 + t)
/-- a play that can be, with at most B beats -/
def rok (a : Nat → Int) (f : Nat → (Nat → Int) → Int) (B : Int) : Prop := wok a f ∧ bedOK a ∧ ((0 ≤ a 14 ∧ a 14 ≤ a 3) ∧ (0 ≤ a 12 ∧ a 12 < 6 ∧ (a 12 < a 4 ∨ (a 4 = 0 ∧ a 12 = 0))) ∧ (0 ≤ a 13 ∧ a 13 < a 2) ∧ (0 ≤ a 15 ∧ a 15 < 2) ∧ (a 15 = 1 → a 14 < a 3) ∧ (a 4 = 0 → a 15 = 1)) ∧ (0 ≤ a 28 ∧ a 28 < 10) ∧ (0 ≤ a 29 ∧ a 29 ≤ B)
section RO
variable {a b : Nat → Int} {f : Nat → (Nat → Int) → Int} {B C : Int}
theorem rok.st (r : rok a f B) : (0 ≤ stA a ∧ stA a < 360) ∧ actI (stA a) = a 14 ∧ lastI (stA a) = a 12 ∧ soundI (stA a) = a 13 ∧ stA a % 2 = a 15 := by
  obtain ⟨r1, r2, r3, r4, r5⟩ := r
  have h2 := r1.2.1
  have h3 := r1.2.2.1
  exact standI_of (by omega)
theorem rok.ok (r : rok a f B) : stOk a (stA a) := by
  obtain ⟨s1, s2, s3, s4, s5⟩ := r.st
  obtain ⟨r1, r2, r3, r4, r5⟩ := r
  unfold stOk
  rw [s2, s3, s4, s5]
  exact ⟨s1, by omega, by omega, by omega, by omega⟩
theorem rok.over (r : rok a f B) : overS a (stA a) ↔ ovA a := by
  obtain ⟨s1, s2, s3, s4, s5⟩ := r.st
  unfold overS
  rw [s2, s5]
theorem rok.le (r : rok a f B) (h : B ≤ C) : rok a f C := ⟨r.1, r.2.1, r.2.2.1, r.2.2.2.1, by have := r.2.2.2.2; omega⟩
theorem codes_congr {i : Nat} (h : ∀ j, j < 12 ∨ (211 ≤ j ∧ j < 1112) → b j = a j) (hi : i < 2) (h1 : 0 ≤ a (8 + i)) (h2 : a (8 + i) + a (10 + i) ≤ 900) : codesOf b i = codesOf a i := by
  unfold codesOf
  rw [h (10 + i) (by omega), h (8 + i) (by omega)]
  apply List.map_congr_left
  intro j hj
  rw [List.mem_range] at hj
  exact h _ (by omega)
theorem wok.congr (ok : wok a f) (h : ∀ j, j < 12 ∨ (211 ≤ j ∧ j < 1112) → b j = a j) (h2 : ∀ s, s < 6 → (0 ≤ b (16 + s) ∧ b (16 + s) < 6) ∧ (0 ≤ b (22 + s) ∧ b (22 + s) < 10)) : wok b f := by
  obtain ⟨o1, o2, o3, o4, o5, o6, o7⟩ := ok
  have lw : ∀ i, i < 2 → lawOK a (f i) i → lawOK b (f i) i := by
    intro i hi hl
    unfold lawOK at hl ⊢
    rw [codes_congr h hi hl.1 hl.2.2.1, h (8 + i) (by omega), h (10 + i) (by omega)]
    exact hl
  unfold wok
  rw [h 4 (by omega), h 2 (by omega), h 3 (by omega), h 5 (by omega), h 6 (by omega), h 7 (by omega)]
  exact ⟨o1, o2, o3, o4, h2, fun e => lw 0 (by omega) (o6 e), fun e => lw 1 (by omega) (o7 e)⟩
theorem rok.congr (r : rok a f B) (h : ∀ j, j < 30 ∨ (211 ≤ j ∧ j < 1112) → b j = a j) : rok b f B := by
  obtain ⟨r1, r2, r3, r4, r5⟩ := r
  refine ⟨r1.congr (fun j hj => h j (by omega)) (fun s hs => by rw [h (16 + s) (by omega), h (22 + s) (by omega)]; exact r1.2.2.2.2.1 s hs), ?_, ?_, ?_, ?_⟩
  · unfold bedOK at r2 ⊢
    rw [h 1 (by omega), h 4 (by omega)]
    refine ⟨r2.1, r2.2.1, fun s hs q => by rw [h (16 + s) (by omega)]; exact r2.2.2.1 s hs q, fun s t h1 h2 q1 q2 q3 => ?_⟩
    rw [h (16 + s) (by omega), h (16 + t) (by omega)]
    exact r2.2.2.2 s t h1 h2 q1 q2 q3
  · rw [h 14 (by omega), h 12 (by omega), h 13 (by omega), h 15 (by omega), h 3 (by omega), h 4 (by omega), h 2 (by omega)]; exact r3
  · rw [h 28 (by omega)]; exact r4
  · rw [h 29 (by omega)]; exact r5
end RO
def setA (a : Nat → Int) (st : Int) (j : Nat) : Int := if j = 14 then actI st else if j = 12 then lastI st else if j = 13 then soundI st else if j = 15 then st % 2 else a j
def btA (a : Nat → Int) (f : Nat → (Nat → Int) → Int) (wk : Int) : Int := beatS a f (a 28) (stA a) wk
def gbA (a : Nat → Int) (f : Nat → (Nat → Int) → Int) (wk : Int) (j : Nat) : Int := if j = 29 then (if btA a f wk % 2 = 0 then a 29 + 1 else a 29) else setA a (btA a f wk) j
def chA (a : Nat → Int) (s o : Int) (j : Nat) : Int := if j = (16 + o).toNat then a (16 + s).toNat else if j = (16 + s).toNat then a (16 + o).toNat else a j
def drA (a : Nat → Int) (s n : Int) (j : Nat) : Int := if j = (22 + s).toNat then n else a j
def huA (a : Nat → Int) (n : Int) (j : Nat) : Int := if j = 28 then n else a j
def doA (a : Nat → Int) (f : Nat → (Nat → Int) → Int) (v : Int) : Nat → Int := if v < 10 then gbA a f (v - 1) else if v < 20 then huA a (v - 10) else if v < 200 then chA a ((v - 100) / 10) (v % 10) else drA a ((v - 200) / 10) (v % 10)
def whyBA (a : Nat → Int) (v : Int) : Int := if 0 ≤ v ∧ v ≤ a 4 then (if ovA a then 2 else 0) else 1
def whyA (a : Nat → Int) (v : Int) : Int := if 0 ≤ v ∧ v ≤ 9 then whyBA a v else if 10 ≤ v ∧ v ≤ 19 then 0 else if 100 ≤ v ∧ v ≤ 199 then (if (v - 100) / 10 < a 4 ∧ v % 10 < a 4 ∧ (v - 100) / 10 ≠ v % 10 then 0 else 1) else if 200 ≤ v ∧ v ≤ 299 then (if (v - 200) / 10 < a 4 then 0 else 1) else 1
section DO
variable {a b : Nat → Int} {f : Nat → (Nat → Int) → Int} {B C : Int}
theorem btA_ok (r : rok a f B) (ho : ¬ ovA a) (wk : Int) : stOk a (btA a f wk) := beatS_ok r.1 r.ok (fun q => ho (r.over.mp q))
theorem btA_par (r : rok a f B) (ho : ¬ ovA a) (wk : Int) : (snorS a f (a 28) (stA a) wk = -1 ∧ btA a f wk = stA a + 1 ∧ btA a f wk % 2 = 1) ∨ (snorS a f (a 28) (stA a) wk ≠ -1 ∧ btA a f wk % 2 = 0 ∧ lastI (btA a f wk) = snorS a f (a 28) (stA a) wk) := by
  obtain ⟨s1, s2, s3, s4, s5⟩ := r.st
  have r3 := r.2.2.1
  have sb := snorS_b r.1 (hu := a 28) (wk := wk) s1.1
  have tb := toneS_b r.1 (hu := a 28) (st := stA a) (s := snorS a f (a 28) (stA a) wk)
  have o1 := r.1.1
  have o2 := r.1.2.1
  have o3 := r.1.2.2.1
  unfold btA beatS
  by_cases q : snorS a f (a 28) (stA a) wk = -1
  · refine Or.inl ⟨q, ?_⟩
    rw [if_pos q]
    exact ⟨rfl, by omega⟩
  · refine Or.inr ⟨q, ?_⟩
    rw [if_neg q]
    have h7 : 0 ≤ (if toneS a f (a 28) (stA a) (snorS a f (a 28) (stA a) wk) = a 5 then (1 : Int) else 0) ∧ (if toneS a f (a 28) (stA a) (snorS a f (a 28) (stA a) wk) = a 5 then (1 : Int) else 0) ≤ 1 := by split <;> omega
    generalize (if toneS a f (a 28) (stA a) (snorS a f (a 28) (stA a) wk) = a 5 then (1 : Int) else 0) = z at h7
    have h8 : a 14 ≠ a 3 := fun e => ho (Or.inl e)
    obtain ⟨c1, c2, c3, c4, c5⟩ := standI_of (x := actI (stA a) + z) (l := snorS a f (a 28) (stA a) wk) (s := toneS a f (a 28) (stA a) (snorS a f (a 28) (stA a) wk)) (t := 0) (by omega)
    exact ⟨c5, c3⟩
theorem rok.set {st n : Int} (r : rok a f B) (hst : stOk a st) (hn : a 4 = 0 → st % 2 = 1) (h29 : 0 ≤ n ∧ n ≤ C) : rok (fun j => if j = 29 then n else setA a st j) f C := by
  obtain ⟨r1, r2, r3, r4, r5⟩ := r
  obtain ⟨b1, b2, b3, b4, b5⟩ := hst
  have e : ∀ j, j ≠ 14 → j ≠ 12 → j ≠ 13 → j ≠ 15 → j ≠ 29 → (if j = 29 then n else setA a st j) = a j := by
    intro j j1 j2 j3 j4 j5
    unfold setA
    rw [if_neg j5, if_neg j1, if_neg j2, if_neg j3, if_neg j4]
  have e14 : (if 14 = 29 then n else setA a st 14) = actI st := rfl
  have e12 : (if 12 = 29 then n else setA a st 12) = lastI st := rfl
  have e13 : (if 13 = 29 then n else setA a st 13) = soundI st := rfl
  have e15 : (if 15 = 29 then n else setA a st 15) = st % 2 := rfl
  have e29 : (if 29 = 29 then n else setA a st 29) = n := rfl
  refine ⟨r1.congr (fun j hj => e j (by omega) (by omega) (by omega) (by omega) (by omega)) (fun s hs => by
    show (0 ≤ (if 16 + s = 29 then n else setA a st (16 + s)) ∧ (if 16 + s = 29 then n else setA a st (16 + s)) < 6) ∧ (0 ≤ (if 22 + s = 29 then n else setA a st (22 + s)) ∧ (if 22 + s = 29 then n else setA a st (22 + s)) < 10)
    rw [e (16 + s) (by omega) (by omega) (by omega) (by omega) (by omega), e (22 + s) (by omega) (by omega) (by omega) (by omega) (by omega)]; exact r1.2.2.2.2.1 s hs), ?_, ?_, ?_, ?_⟩
  · unfold bedOK at r2 ⊢
    simp only
    rw [e 1 (by omega) (by omega) (by omega) (by omega) (by omega), e 4 (by omega) (by omega) (by omega) (by omega) (by omega)]
    refine ⟨r2.1, r2.2.1, fun s hs q => by rw [e (16 + s) (by omega) (by omega) (by omega) (by omega) (by omega)]; exact r2.2.2.1 s hs q, fun s t h1 h2 q1 q2 q3 => ?_⟩
    rw [e (16 + s) (by omega) (by omega) (by omega) (by omega) (by omega), e (16 + t) (by omega) (by omega) (by omega) (by omega) (by omega)]
    exact r2.2.2.2 s t h1 h2 q1 q2 q3
  · simp only
    rw [e14, e12, e13, e15, e 3 (by omega) (by omega) (by omega) (by omega) (by omega), e 4 (by omega) (by omega) (by omega) (by omega) (by omega), e 2 (by omega) (by omega) (by omega) (by omega) (by omega)]
    have l1 := lastI_b b1.1
    have l2 := soundI_b b1.1
    have l3 := actI_b b1
    exact ⟨⟨by omega, by omega⟩, ⟨by omega, by omega, by omega⟩, by omega, by omega, b5, hn⟩
  · simp only
    rw [e 28 (by omega) (by omega) (by omega) (by omega) (by omega)]; exact r4
  · exact h29
theorem gbA_ok (r : rok a f B) (ho : ¬ ovA a) (wk : Int) : rok (gbA a f wk) f (B + 1) := by
  have h := btA_ok r ho wk
  have r5 := r.2.2.2.2
  have hn : a 4 = 0 → btA a f wk % 2 = 1 := fun q => absurd (Or.inr (r.2.2.1.2.2.2.2.2 q)) ho
  refine r.set h hn (n := (if btA a f wk % 2 = 0 then a 29 + 1 else a 29)) ?_
  split <;> omega
theorem gbA_e {wk : Int} : (∀ j, j ≠ 14 → j ≠ 12 → j ≠ 13 → j ≠ 15 → j ≠ 29 → gbA a f wk j = a j) ∧ gbA a f wk 14 = actI (btA a f wk) ∧ gbA a f wk 12 = lastI (btA a f wk) ∧ gbA a f wk 13 = soundI (btA a f wk) ∧ gbA a f wk 15 = btA a f wk % 2 ∧ gbA a f wk 29 = (if btA a f wk % 2 = 0 then a 29 + 1 else a 29) := by
  refine ⟨fun j j1 j2 j3 j4 j5 => ?_, rfl, rfl, rfl, rfl, rfl⟩
  unfold gbA setA
  rw [if_neg j5, if_neg j1, if_neg j2, if_neg j3, if_neg j4]
theorem gbA_st (r : rok a f B) (ho : ¬ ovA a) (wk : Int) : stA (gbA a f wk) = btA a f wk := by
  obtain ⟨e1, e2, e3, e4, e5, e6⟩ := gbA_e (a := a) (f := f) (wk := wk)
  obtain ⟨b1, b2, b3, b4, b5⟩ := btA_ok r ho wk
  unfold stA standI
  rw [e2, e3, e4, e5]
  unfold actI lastI soundI
  omega
/-- rows that differ in beds, dreams, hush alone -/
theorem rok.other (r : rok a f B) (h : ∀ j, j < 16 ∨ j = 29 ∨ (211 ≤ j ∧ j < 1112) → b j = a j) (h2 : ∀ s, s < 6 → (0 ≤ b (16 + s) ∧ b (16 + s) < 6) ∧ (0 ≤ b (22 + s) ∧ b (22 + s) < 10)) (h3 : (∀ s : Nat, s < 6 → (s : Int) < a 4 → b (16 + s) < a 1) ∧ ∀ s t : Nat, s < 6 → t < 6 → (s : Int) < a 4 → (t : Int) < a 4 → s ≠ t → b (16 + s) ≠ b (16 + t)) (h4 : 0 ≤ b 28 ∧ b 28 < 10) : rok b f B := by
  obtain ⟨r1, r2, r3, r4, r5⟩ := r
  refine ⟨r1.congr (fun j hj => h j (by omega)) h2, ?_, ?_, h4, ?_⟩
  · unfold bedOK at r2 ⊢
    rw [h 1 (by omega), h 4 (by omega)]
    exact ⟨r2.1, r2.2.1, h3.1, h3.2⟩
  · rw [h 14 (by omega), h 12 (by omega), h 13 (by omega), h 15 (by omega), h 3 (by omega), h 4 (by omega), h 2 (by omega)]; exact r3
  · rw [h 29 (by omega)]; exact r5
theorem huA_ok {n : Int} (r : rok a f B) (hn : 0 ≤ n ∧ n ≤ 9) : rok (huA a n) f B := by
  have e : ∀ j, j ≠ 28 → huA a n j = a j := fun j hj => if_neg hj
  refine r.other (fun j hj => e j (by omega)) (fun s hs => by rw [e _ (by omega), e _ (by omega)]; exact r.1.2.2.2.2.1 s hs) ⟨fun s hs q => by rw [e _ (by omega)]; exact r.2.1.2.2.1 s hs q, fun s t h1 h2 q1 q2 q3 => by rw [e _ (by omega), e _ (by omega)]; exact r.2.1.2.2.2 s t h1 h2 q1 q2 q3⟩ ?_
  show 0 ≤ n ∧ n < 10
  omega
theorem drA_ok {s n : Int} (r : rok a f B) (hs : 0 ≤ s ∧ s < a 4) (hn : 0 ≤ n ∧ n ≤ 9) : rok (drA a s n) f B := by
  have h4 := r.1.1
  have e : ∀ j, j ≠ (22 + s).toNat → drA a s n j = a j := fun j hj => if_neg hj
  refine r.other (fun j hj => e j (by omega)) (fun t ht => ⟨by rw [e _ (by omega)]; exact (r.1.2.2.2.2.1 t ht).1, ?_⟩) ⟨fun s hs q => by rw [e _ (by omega)]; exact r.2.1.2.2.1 s hs q, fun s t h1 h2 q1 q2 q3 => by rw [e _ (by omega), e _ (by omega)]; exact r.2.1.2.2.2 s t h1 h2 q1 q2 q3⟩ ?_
  · by_cases q : 22 + t = (22 + s).toNat
    · rw [q]; unfold drA; rw [if_pos rfl]; omega
    · rw [e _ q]; exact (r.1.2.2.2.2.1 t ht).2
  · rw [e 28 (by omega)]; exact r.2.2.2.1
theorem chA_at {s o : Int} (hs : 0 ≤ s) (ho : 0 ≤ o) (t : Nat) : chA a s o (16 + t) = if (t : Int) = o then a (16 + s).toNat else if (t : Int) = s then a (16 + o).toNat else a (16 + t) := by
  unfold chA
  by_cases q : (t : Int) = o
  · rw [if_pos q, if_pos (by omega)]
  · rw [if_neg q, if_neg (by omega)]
    by_cases q2 : (t : Int) = s
    · rw [if_pos q2, if_pos (by omega)]
    · rw [if_neg q2, if_neg (by omega)]
theorem chA_ok {s o : Int} (r : rok a f B) (hs : 0 ≤ s ∧ s < a 4) (ho : 0 ≤ o ∧ o < a 4) (hso : s ≠ o) : rok (chA a s o) f B := by
  have h4 := r.1.1
  have e : ∀ j, j < 16 ∨ 22 ≤ j → chA a s o j = a j := fun j hj => by
    unfold chA; rw [if_neg (by omega), if_neg (by omega)]
  have b1 := r.1.bed (s := s) (by omega)
  have b2 := r.1.bed (s := o) (by omega)
  have es : (16 + s).toNat = 16 + s.toNat := by omega
  have eo : (16 + o).toNat = 16 + o.toNat := by omega
  have dd := r.2.1.2.2.2
  have db := r.2.1.2.2.1
  refine r.other (fun j hj => e j (by omega)) (fun t ht => ⟨?_, by rw [e _ (by omega)]; exact (r.1.2.2.2.2.1 t ht).2⟩) ⟨fun t ht q => ?_, fun t u h1 h2 q1 q2 q3 => ?_⟩ (by rw [e _ (by omega)]; exact r.2.2.2.1)
  · rw [chA_at hs.1 ho.1]
    split
    · exact b1
    · split
      · exact b2
      · exact (r.1.2.2.2.2.1 t ht).1
  · rw [chA_at hs.1 ho.1, es, eo]
    split
    · exact db _ (by omega) (by omega)
    · split
      · exact db _ (by omega) (by omega)
      · exact db t ht q
  · rw [chA_at hs.1 ho.1, chA_at hs.1 ho.1, es, eo]
    have d1 := dd s.toNat o.toNat (by omega) (by omega) (by omega) (by omega) (by omega)
    have d2 := dd t u h1 h2 q1 q2 q3
    have d3 := fun q => dd s.toNat t (by omega) h1 (by omega) q1 q
    have d4 := fun q => dd s.toNat u (by omega) h2 (by omega) q2 q
    have d5 := fun q => dd o.toNat t (by omega) h1 (by omega) q1 q
    have d6 := fun q => dd o.toNat u (by omega) h2 (by omega) q2 q
    by_cases c1 : (t : Int) = o
    · rw [if_pos c1]
      rw [if_neg (show ¬ (u : Int) = o by omega)]
      by_cases c2 : (u : Int) = s
      · rw [if_pos c2]; exact d1
      · rw [if_neg c2]; exact d4 (by omega)
    · rw [if_neg c1]
      by_cases c2 : (t : Int) = s
      · rw [if_pos c2]
        by_cases c3 : (u : Int) = o
        · rw [if_pos c3]; exact fun q => d1 q.symm
        · rw [if_neg c3, if_neg (show ¬ (u : Int) = s by omega)]; exact d6 (by omega)
      · rw [if_neg c2]
        by_cases c3 : (u : Int) = o
        · rw [if_pos c3]; exact fun q => d3 (by omega) q.symm
        · rw [if_neg c3]
          by_cases c4 : (u : Int) = s
          · rw [if_pos c4]; exact fun q => d5 (by omega) q.symm
          · rw [if_neg c4]; exact d2
theorem whyBA_0 {v : Int} (h : whyBA a v = 0) : (0 ≤ v ∧ v ≤ a 4) ∧ ¬ ovA a := by
  unfold whyBA at h
  split at h
  · rename_i q
    split at h
    · omega
    · rename_i q2; exact ⟨q, q2⟩
  · omega
theorem doA_ok {v : Int} (r : rok a f B) (h : whyA a v = 0) : rok (doA a f v) f (B + 1) := by
  have h4 := r.1.1
  unfold whyA at h
  unfold doA
  split at h
  · rename_i q
    have := whyBA_0 h
    rw [if_pos (by omega)]
    exact gbA_ok r this.2 _
  · split at h
    · rw [if_neg (by omega), if_pos (by omega)]
      exact (huA_ok r (by omega)).le (by omega)
    · split at h
      · split at h
        · rename_i q
          rw [if_neg (by omega), if_neg (by omega), if_pos (by omega)]
          exact (chA_ok r (by omega) (by omega) q.2.2).le (by omega)
        · omega
      · split at h
        · split at h
          · rw [if_neg (by omega), if_neg (by omega), if_neg (by omega)]
            exact (drA_ok r (by omega) (by omega)).le (by omega)
          · omega
        · omega
end DO
/-- deeds told, one behind the other: the row, how many, why not more -/
def telA (f : Nat → (Nat → Int) → Int) (num : Nat → Int) : Nat → Nat → (Nat → Int) → (Nat → Int) × Nat × Int
  | 0, k, a => (a, k, 0)
  | m + 1, k, a => if whyA a (num k) = 0 then telA f num m (k + 1) (doA a f (num k)) else (a, k, whyA a (num k))
/-- draws -/
def lcg (x : Int) : Int := am_w (1103515245 * x + 12345)
def drw (x m : Int) : Int := (am_ushr (lcg x) 16) % m
def deedD (x : Int) : Int × Int := if drw x 6 < 2 then (0, lcg x) else if drw x 6 = 2 then (drw (lcg x) 7, lcg (lcg x)) else if drw x 6 = 3 then (10 + drw (lcg x) 10, lcg (lcg x)) else if drw x 6 = 4 then (100 + 10 * drw (lcg x) 6 + drw (lcg (lcg x)) 6, lcg (lcg (lcg x))) else (200 + 10 * drw (lcg x) 6 + drw (lcg (lcg x)) 10, lcg (lcg (lcg x)))
def nigA (f : Nat → (Nat → Int) → Int) : Nat → Int → Nat → (Nat → Int) → (Nat → Int) × Nat
  | 0, _, n, a => (a, n)
  | m + 1, x, n, a => if whyA a (deedD x).1 = 0 then nigA f m (deedD x).2 (n + 1) (doA a f (deedD x).1) else nigA f m (deedD x).2 n a
def btsA (f : Nat → (Nat → Int) → Int) : Nat → (Nat → Int) → (Nat → Int)
  | 0, a => a
  | m + 1, a => if ovA a then a else btsA f m (gbA a f (-1))
theorem telA_ok {f : Nat → (Nat → Int) → Int} {num : Nat → Int} : ∀ (m k : Nat) (a : Nat → Int) (B : Int), rok a f B → rok (telA f num m k a).1 f (B + m) ∧ (telA f num m k a).2.1 ≤ k + m ∧ k ≤ (telA f num m k a).2.1 := by
  intro m
  induction m with
  | zero => intro k a B r; exact ⟨r.le (by omega), by simp [telA], by simp [telA]⟩
  | succ m ih =>
    intro k a B r
    simp only [telA]
    split
    · rename_i q
      have := ih (k + 1) _ _ (doA_ok r q)
      exact ⟨this.1.le (by omega), by omega, by omega⟩
    · exact ⟨r.le (by omega), by simp only; omega, by simp only; omega⟩
theorem nigA_ok {f : Nat → (Nat → Int) → Int} : ∀ (m : Nat) (x : Int) (n : Nat) (a : Nat → Int) (B : Int), rok a f B → rok (nigA f m x n a).1 f (B + m) ∧ (nigA f m x n a).2 ≤ n + m ∧ n ≤ (nigA f m x n a).2 := by
  intro m
  induction m with
  | zero => intro x n a B r; exact ⟨r.le (by omega), by simp [nigA], by simp [nigA]⟩
  | succ m ih =>
    intro x n a B r
    simp only [nigA]
    split
    · rename_i q
      have := ih (deedD x).2 (n + 1) _ _ (doA_ok r q)
      exact ⟨this.1.le (by omega), by omega, by omega⟩
    · have := ih (deedD x).2 n _ _ r
      exact ⟨this.1.le (by omega), by omega, by omega⟩
theorem btsA_ok {f : Nat → (Nat → Int) → Int} : ∀ (m : Nat) (a : Nat → Int) (B : Int), rok a f B → rok (btsA f m a) f (B + m) ∧ a 29 ≤ btsA f m a 29 := by
  intro m
  induction m with
  | zero => intro a B r; exact ⟨r.le (by omega), by simp [btsA]⟩
  | succ m ih =>
    intro a B r
    simp only [btsA]
    split
    · exact ⟨r.le (by omega), by omega⟩
    · rename_i q
      have := ih _ _ (gbA_ok r q (-1))
      have e := (gbA_e (a := a) (f := f) (wk := -1)).2.2.2.2.2
      refine ⟨this.1.le (by omega), ?_⟩
      have h2 := this.2
      rw [e] at h2
      split at h2 <;> omega
/-- the plays kept: rows of their own -/
def nrm (a : Nat → Int) (j : Nat) : Int := if 30 ≤ j ∧ j < 211 then 0 else a j
def hist (a : Nat → Int) (i : Nat) (j : Nat) : Int := if 12 ≤ j ∧ j < 30 then a (31 + 18 * i + (j - 12)) else if 30 ≤ j ∧ j < 211 then 0 else a j
/-- a row with all that it keeps -/
def hok (a : Nat → Int) (f : Nat → (Nat → Int) → Int) (B : Int) : Prop := rok a f B ∧ (0 ≤ a 30 ∧ a 30 ≤ 10) ∧ ∀ i : Nat, (i : Int) < a 30 → rok (hist a i) f B
theorem nrm_ok {a : Nat → Int} {f : Nat → (Nat → Int) → Int} {B : Int} (r : rok a f B) : rok (nrm a) f B := r.congr (fun j hj => by unfold nrm; rw [if_neg (by omega)])
/-- rows alike but for the play -/
def alike (a b : Nat → Int) : Prop := ∀ j, j < 12 ∨ 30 ≤ j → b j = a j
theorem alike.rfl {a : Nat → Int} : alike a a := fun _ _ => by rfl
theorem alike.trans {a b c : Nat → Int} (p : alike a b) (q : alike b c) : alike a c := fun j hj => (q j hj).trans (p j hj)
theorem gbA_al {a : Nat → Int} {f : Nat → (Nat → Int) → Int} {wk : Int} : alike a (gbA a f wk) := fun j hj => (gbA_e (a := a) (f := f) (wk := wk)).1 j (by omega) (by omega) (by omega) (by omega) (by omega)
theorem doA_al {a : Nat → Int} {f : Nat → (Nat → Int) → Int} {v : Int} (h4 : a 4 ≤ 6) (h : whyA a v = 0) : alike a (doA a f v) := by
  unfold whyA at h
  unfold doA
  split at h
  · rw [if_pos (by omega)]; exact gbA_al
  · split at h
    · rw [if_neg (by omega), if_pos (by omega)]
      intro j hj; unfold huA; rw [if_neg (by omega)]
    · split at h
      · split at h
        · rw [if_neg (by omega), if_neg (by omega), if_pos (by omega)]
          intro j hj; unfold chA; rw [if_neg (by omega), if_neg (by omega)]
        · omega
      · split at h
        · split at h
          · rw [if_neg (by omega), if_neg (by omega), if_neg (by omega)]
            intro j hj; unfold drA; rw [if_neg (by omega)]
          · omega
        · omega
theorem telA_al {f : Nat → (Nat → Int) → Int} {num : Nat → Int} : ∀ (m k : Nat) (a : Nat → Int), a 4 ≤ 6 → alike a (telA f num m k a).1 := by
  intro m
  induction m with
  | zero => intro k a _; exact alike.rfl
  | succ m ih =>
    intro k a h4
    simp only [telA]
    split
    · rename_i q
      have h := doA_al (f := f) h4 q
      exact h.trans (ih _ _ (by rw [h 4 (by omega)]; exact h4))
    · exact alike.rfl
theorem nigA_al {f : Nat → (Nat → Int) → Int} : ∀ (m : Nat) (x : Int) (n : Nat) (a : Nat → Int), a 4 ≤ 6 → alike a (nigA f m x n a).1 := by
  intro m
  induction m with
  | zero => intro x n a _; exact alike.rfl
  | succ m ih =>
    intro x n a h4
    simp only [nigA]
    split
    · rename_i q
      have h := doA_al (f := f) h4 q
      exact h.trans (ih _ _ _ (by rw [h 4 (by omega)]; exact h4))
    · exact ih _ _ _ h4
theorem btsA_al {f : Nat → (Nat → Int) → Int} : ∀ (m : Nat) (a : Nat → Int), alike a (btsA f m a) := by
  intro m
  induction m with
  | zero => intro a; exact alike.rfl
  | succ m ih =>
    intro a
    simp only [btsA]
    split
    · exact alike.rfl
    · exact gbA_al.trans (ih _)
/-- a call done: the play ahead is kept -/
theorem push_hist {a b : Nat → Int} (h30 : 0 ≤ a 30 ∧ a 30 ≤ 10) (al : alike a b) : pushA (wasA a) b 30 = (if a 30 = 10 then 10 else a 30 + 1) ∧ (∀ i : Nat, (i : Int) + 1 < pushA (wasA a) b 30 → hist (pushA (wasA a) b) i = hist a (if a 30 = 10 then i + 1 else i)) ∧ (∀ i : Nat, (i : Int) + 1 = pushA (wasA a) b 30 → hist (pushA (wasA a) b) i = nrm a) ∧ (∀ j, j < 30 ∨ 211 ≤ j → pushA (wasA a) b j = b j) := by
  have e30 := al 30 (by omega)
  have e0 : pushA (wasA a) b 30 = (if a 30 = 10 then 10 else a 30 + 1) := by
    unfold pushA
    rw [e30]
    by_cases q : a 30 = 10
    · rw [if_pos q, if_pos q, if_neg (by omega), if_neg (by omega)]; exact q
    · rw [if_neg q, if_neg q, if_pos rfl]
  have e3 : ∀ j, j < 30 ∨ 211 ≤ j → pushA (wasA a) b j = b j := by
    intro j hj
    unfold pushA
    rw [e30]
    by_cases q : a 30 = 10
    · rw [if_pos q, if_neg (by omega), if_neg (by omega)]
    · rw [if_neg q, if_neg (by omega), if_neg (by omega)]
  refine ⟨e0, fun i hi => ?_, fun i hi => ?_, e3⟩
  · rw [e0] at hi
    funext j
    unfold hist
    by_cases c1 : 12 ≤ j ∧ j < 30
    · rw [if_pos c1, if_pos c1]
      unfold pushA
      rw [e30]
      by_cases q : a 30 = 10
      · rw [if_pos q] at hi
        rw [if_pos q, if_neg (by omega), if_pos (by omega), if_pos q, al _ (by omega)]
        exact cg a (by omega)
      · rw [if_neg q] at hi
        rw [if_neg q, if_neg (by omega), if_neg (by omega), if_neg q, al _ (by omega)]
    · rw [if_neg c1, if_neg c1]
      by_cases c2 : 30 ≤ j ∧ j < 211
      · rw [if_pos c2, if_pos c2]
      · rw [if_neg c2, if_neg c2, e3 j (by omega), al j (by omega)]
  · rw [e0] at hi
    funext j
    unfold hist nrm
    by_cases c1 : 12 ≤ j ∧ j < 30
    · rw [if_pos c1, if_neg (by omega)]
      unfold pushA wasA
      rw [e30]
      by_cases q : a 30 = 10
      · rw [if_pos q] at hi
        rw [if_pos q, if_pos (by omega)]
        exact cg a (by omega)
      · rw [if_neg q] at hi
        rw [if_neg q, if_neg (by omega), if_pos (by omega)]
        exact cg a (by omega)
    · rw [if_neg c1]
      by_cases c2 : 30 ≤ j ∧ j < 211
      · rw [if_pos c2, if_pos c2]
      · rw [if_neg c2, if_neg c2, e3 j (by omega), al j (by omega)]
theorem push_ok {a b : Nat → Int} {f : Nat → (Nat → Int) → Int} {B C : Int} (h : hok a f B) (al : alike a b) (r : rok b f C) (hBC : B ≤ C) : hok (pushA (wasA a) b) f C := by
  obtain ⟨e0, e1, e2, e3⟩ := push_hist h.2.1 al
  have h30 := h.2.1
  refine ⟨r.congr (fun j hj => e3 j (by omega)), ?_, fun i hi => ?_⟩
  · rw [e0]; split <;> omega
  · by_cases q : (i : Int) + 1 = pushA (wasA a) b 30
    · rw [e2 i q]; exact (nrm_ok h.1).le hBC
    · rw [e1 i (by omega)]
      refine (h.2.2 _ ?_).le hBC
      rw [e0] at hi q
      split at hi
      · rename_i c; rw [if_pos c] at q ⊢; omega
      · rename_i c; rw [if_neg c] at q ⊢; omega
/-- calls undone -/
def undA (a : Nat → Int) (n : Int) (j : Nat) : Int := if 12 ≤ j ∧ j < 30 then a (31 + 18 * (a 30 - n).toNat + (j - 12)) else if j = 30 then a 30 - n else a j
theorem und_ok {a : Nat → Int} {f : Nat → (Nat → Int) → Int} {B n : Int} (h : hok a f B) (hn : 1 ≤ n ∧ n ≤ a 30) : hok (undA a n) f B := by
  have r := h.2.2 (a 30 - n).toNat (by omega)
  have h30 := h.2.1
  refine ⟨r.congr (fun j hj => ?_), ?_, fun i hi => ?_⟩
  · unfold undA hist
    by_cases c : 12 ≤ j ∧ j < 30
    · rw [if_pos c, if_pos c]
    · rw [if_neg c, if_neg c, if_neg (by omega), if_neg (by omega)]
  · unfold undA; rw [if_neg (by omega), if_pos rfl]; omega
  · have e : undA a n 30 = a 30 - n := by unfold undA; rw [if_neg (by omega), if_pos rfl]
    rw [e] at hi
    have : hist (undA a n) i = hist a i := by
      funext j
      unfold hist
      by_cases c : 12 ≤ j ∧ j < 30
      · rw [if_pos c, if_pos c]; unfold undA; rw [if_neg (by omega), if_neg (by omega)]
      · rw [if_neg c, if_neg c]
        by_cases c2 : 30 ≤ j ∧ j < 211
        · rw [if_pos c2, if_pos c2]
        · rw [if_neg c2, if_neg c2]; unfold undA; rw [if_neg c, if_neg (by omega)]
    rw [this]
    exact h.2.2 i (by omega)
