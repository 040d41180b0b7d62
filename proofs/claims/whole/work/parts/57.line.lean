/-! the play left alone -/
abbrev ovT (a : Nat → Int) (st : Int) : Prop := actI st = a 3 ∨ st % 2 = 1
def Tr (a : Nat → Int) (f : Nat → (Nat → Int) → Int) (st deed : Int) : Int := beatS a f (a 28) st (deed - 1)
def seqA (a : Nat → Int) (f : Nat → (Nat → Int) → Int) : Nat → Int
  | 0 => stA a
  | k + 1 => if ovT a (seqA a f k) then seqA a f k else Tr a f (seqA a f k) 0
/-- same house, beds, dreams, hush -/
def simA (a b : Nat → Int) : Prop := ∀ j, j < 8 ∨ (16 ≤ j ∧ j < 29) → b j = a j
theorem simA.rfl {a : Nat → Int} : simA a a := fun _ _ => by rfl
theorem simA.trans {a b c : Nat → Int} (p : simA a b) (q : simA b c) : simA a c := fun j hj => (q j hj).trans (p j hj)
theorem simA.symm {a b : Nat → Int} (p : simA a b) : simA b a := fun j hj => (p j hj).symm
theorem gbA_sim {a : Nat → Int} {f : Nat → (Nat → Int) → Int} {wk : Int} : simA a (gbA a f wk) := fun j hj => (gbA_e (a := a) (f := f) (wk := wk)).1 j (by omega) (by omega) (by omega) (by omega) (by omega)
section LI
variable {a b : Nat → Int} {f : Nat → (Nat → Int) → Int} {B : Int}
theorem farS_congr (p : simA a b) {s l : Int} (hs : 0 ≤ s ∧ s < 6) (hl : 0 ≤ l ∧ l < 6) : farS b s l = farS a s l := by
  unfold farS
  rw [p (16 + s).toNat (by omega), p (16 + l).toNat (by omega)]
theorem envS_congr (p : simA a b) {s hu st : Int} (hs : 0 ≤ s ∧ s < 6) (hst : 0 ≤ st) : envS b hu st s = envS a hu st s := by
  funext k
  unfold envS
  rw [farS_congr p hs (lastI_b hst), p (22 + s).toNat (by omega)]
theorem wouldS_congr (p : simA a b) {s hu st : Int} (hs : 0 ≤ s ∧ s < 6) (hst : 0 ≤ st) : wouldS b f hu st s = wouldS a f hu st s := by
  unfold wouldS
  rw [envS_congr p hs hst, farS_congr p hs (lastI_b hst), p 6 (by omega)]
theorem snS_congr (p : simA a b) {hu st wk : Int} (hst : 0 ≤ st) : ∀ n, n ≤ 6 → snS b f hu st wk n = snS a f hu st wk n := by
  intro n
  induction n with
  | zero => intro _; rfl
  | succ n ih =>
    intro hn
    simp only [snS]
    rw [ih (by omega), wouldS_congr p (by omega) hst]
theorem snorS_congr (p : simA a b) (h4 : 0 ≤ a 4 ∧ a 4 ≤ 6) {hu st wk : Int} (hst : 0 ≤ st) : snorS b f hu st wk = snorS a f hu st wk := by
  unfold snorS
  rw [p 4 (by omega), snS_congr p hst _ (by omega)]
theorem beatS_congr (p : simA a b) (ok : wok a f) {hu st wk : Int} (hst : 0 ≤ st) : beatS b f hu st wk = beatS a f hu st wk := by
  have sb := snorS_b ok (hu := hu) (wk := wk) hst
  have h4 := ok.1
  unfold beatS
  rw [snorS_congr p h4 hst]
  by_cases q : snorS a f hu st wk = -1
  · rw [if_pos q, if_pos q]
  · rw [if_neg q, if_neg q]
    have e : toneS b f hu st (snorS a f hu st wk) = toneS a f hu st (snorS a f hu st wk) := by
      unfold toneS
      rw [envS_congr p (by omega) hst, p 7 (by omega), p 2 (by omega), p (22 + snorS a f hu st wk).toNat (by omega)]
    rw [e, p 5 (by omega)]
theorem btA_sim (p : simA a b) (r : rok b f B) {wk : Int} : btA b f wk = beatS a f (a 28) (stA b) wk := by
  unfold btA
  rw [beatS_congr p.symm r.1 r.st.1.1, p 28 (by omega)]
theorem Tr_ok (r : rok a f B) {st deed : Int} (h : stOk a st) (ho : ¬ ovT a st) : stOk a (Tr a f st deed) := beatS_ok r.1 h ho
theorem seq_ok (r : rok a f B) : ∀ k, stOk a (seqA a f k) := by
  intro k
  induction k with
  | zero => exact r.ok
  | succ k ih =>
    simp only [seqA]
    split
    · exact ih
    · rename_i q; exact Tr_ok r ih q
/-- how the line goes: n beats, then over (t is -1), or as at t -/
def LN (a : Nat → Int) (f : Nat → (Nat → Int) → Int) (n : Nat) (t : Int) : Prop := (t = -1 ∧ ovT a (seqA a f n) ∧ ∀ k, k < n → ¬ ovT a (seqA a f k)) ∨ ((0 ≤ t ∧ t < n) ∧ seqA a f n = seqA a f t.toNat ∧ (∀ k, k ≤ n → ¬ ovT a (seqA a f k)) ∧ ∀ i j, i < j → j < n → seqA a f i ≠ seqA a f j)
theorem seq_per {n m : Nat} (e : seqA a f n = seqA a f m) : ∀ k, seqA a f (n + k) = seqA a f (m + k) := by
  intro k
  induction k with
  | zero => exact e
  | succ k ih =>
    show seqA a f (n + k + 1) = seqA a f (m + k + 1)
    simp only [seqA]
    rw [ih]
/-- a line that comes round is never over -/
theorem seq_never {n m : Nat} (hm : m < n) (e : seqA a f n = seqA a f m) (h : ∀ k, k ≤ n → ¬ ovT a (seqA a f k)) : ∀ k, ¬ ovT a (seqA a f k) := by
  intro k
  induction k using Nat.strongRecOn with
  | _ k ih =>
    by_cases q : k ≤ n
    · exact h k q
    · have := seq_per e (k - n)
      rw [show n + (k - n) = k by omega] at this
      rw [this]
      exact ih _ (by omega)
theorem LN.uniq {n n' : Nat} {t t' : Int} (x : LN a f n t) (y : LN a f n' t') : n = n' ∧ t = t' := by
  rcases x with ⟨x1, x2, x3⟩ | ⟨x1, x2, x3, x4⟩ <;> rcases y with ⟨y1, y2, y3⟩ | ⟨y1, y2, y3, y4⟩
  · refine ⟨?_, by omega⟩
    rcases Nat.lt_trichotomy n n' with q | q | q
    · exact absurd x2 (y3 n q)
    · exact q
    · exact absurd y2 (x3 n' q)
  · exact absurd x2 (seq_never (by omega) y2 y3 n)
  · exact absurd y2 (seq_never (by omega) x2 x3 n')
  · have en : n = n' := by
      rcases Nat.lt_trichotomy n n' with q | q | q
      · exact absurd x2.symm (y4 t.toNat n (by omega) q)
      · exact q
      · exact absurd y2.symm (x4 t'.toNat n' (by omega) q)
    subst en
    refine ⟨rfl, ?_⟩
    rcases Nat.lt_trichotomy t.toNat t'.toNat with q | q | q
    · exact absurd (x2.symm.trans y2) (x4 t.toNat t'.toNat q (by omega))
    · omega
    · exact absurd (y2.symm.trans x2) (x4 t'.toNat t.toNat q (by omega))
def q_goes (a : Nat → Int) (f : Nat → (Nat → Int) → Int) (n : Nat) (t w : Int) : Int := if w = 0 then (if t = -1 then (if actI (seqA a f n) = a 3 then 0 else 1) else 2) else if t = -1 then (n : Int) else -1
def q_lies (a : Nat → Int) (f : Nat → (Nat → Int) → Int) (n : Nat) (t k : Int) : Int := if t = -1 then (if k ≤ (n : Int) then (if seqA a f k.toNat % 2 = 1 then -1 else lastI (seqA a f k.toNat)) else -1) else lastI (seqA a f (if k < (n : Int) then k else t + (k - t) % ((n : Int) - t)).toNat)
def q_round (n : Nat) (t w : Int) : Int := if t = -1 then -1 else if w = 0 then t else (n : Int) - t
def lisN (a : Nat → Int) (f : Nat → (Nat → Int) → Int) : Nat → Nat → Nat
  | 0, k => k
  | m + 1, k => if ovT a (seqA a f k) ∨ seqA a f (k + 1) % 2 = 1 then k else lisN a f m (k + 1)
theorem lisN_b : ∀ m k, k ≤ lisN a f m k ∧ lisN a f m k ≤ k + m := by
  intro m
  induction m with
  | zero => intro k; simp [lisN]
  | succ m ih =>
    intro k
    simp only [lisN]
    split
    · omega
    · have := ih (k + 1); omega
/-- what is listed -/
def lisV (a : Nat → Int) (f : Nat → (Nat → Int) → Int) (w : Int) (i : Nat) : Int := if w = 0 then lastI (seqA a f (i + 1)) else soundI (seqA a f (i + 1))
end LI
section LM
variable {scr : Nat × (Nat → Int)} {d : Nat} {h : am_H} {Q : Option am_V → am_H → Prop} {a : Nat → Int} {f : Nat → (Nat → Int) → Int} {B : Int}
theorem k_beatToT {st : Int} (hs : am_sc scr) (hw : wf h) (ha : h.2.2.2 110 = a) (r : rok a f B) (h2 : stOk a st) (ho : ¬ ovT a st) {wk : Int} (H : ∀ g, wf g → fr [114, 115] [] h g → Q (some (.inl (beatS a f (a 28) st wk))) g) : am_R (am_prog scr) (d + 4) f_M_beatTo 0 [some (.inr (.inr ((109 : Nat) : Int))), some (.inl (st)), some (.inl (wk)), some (.inl (a 28)), none, none, none] [] h Q := by
  have : actI st ≠ a 3 := fun e => ho (Or.inl e)
  have h3 := h2.2.1
  exact k_beatTo hs hw ha r.1 h2.1 (by omega) r.2.2.2.1 H
theorem k_isOverT {st : Int} (hs : am_sc scr) (hw : wf h) (ha : h.2.2.2 110 = a) (h2 : 0 ≤ st ∧ st < 360) (H : Q (some (.inl (if ovT a st then 1 else 0))) h) : am_R (am_prog scr) (d + 2) f_M_isOver 0 [some (.inr (.inr ((109 : Nat) : Int))), some (.inl (st))] [] h Q := by
  refine k_isOver hs hw h2 (fun z hz => ?_)
  rw [ha] at hz
  rcases hz with ⟨e, q⟩ | ⟨e, q⟩
  · have q : ovT a st := q
    rw [if_pos q] at H; rw [e]; exact H
  · have q : ¬ ovT a st := q
    rw [if_neg q] at H; rw [e]; exact H
theorem k_laysLine_37 (hs : am_sc scr) (r : rok a f B) : ∀ (m k : Nat) (h : am_H), k + m = 361 → wf h → h.2.2.2 110 = a → h.2.2.2 109 22 = k → h.2.2.2 109 23 = -1 → (∀ i, i < k → h.2.2.2 117 i = seqA a f i) → (∀ i, i < k → h.2.2.2 118 (seqA a f i).toNat = i) → (∀ j : Nat, j < 360 → (∀ i, i < k → seqA a f i ≠ (j : Int)) → h.2.2.2 118 j = -1) → (∀ i, i < k → ¬ ovT a (seqA a f i)) → (∀ i j, i < j → j < k → seqA a f i ≠ seqA a f j) → (∀ g (n : Nat) (t : Int), wf g → fr [114, 115, 117, 118] [(109, 22), (109, 23)] h g → LN a f n t → g.2.2.2 109 23 = t → g.2.2.2 109 22 = (if t = -1 then (n : Int) + 1 else n) → (∀ i : Nat, (i : Int) < (if t = -1 then (n : Int) + 1 else n) → g.2.2.2 117 i = seqA a f i) → n ≤ 360 → Q none g) → am_R (am_prog scr) (d + 5) f_M_laysLine 37 [some (.inr (.inr ((109 : Nat) : Int))), some (.inl (seqA a f k))] [] h Q := by
  intro m
  induction m with
  | zero =>
    intro k h hk hw ha h22 h23 hl hp hq hno hd H
    exfalso
    have := pigeon 360 k (fun i => (seqA a f i).toNat) (fun i hi => by have := (seq_ok r i).1; show (seqA a f i).toNat < 360; omega) (fun i j hij hj e => by
      have h1 := (seq_ok r i).1
      have h2 := (seq_ok r j).1
      have e : (seqA a f i).toNat = (seqA a f j).toNat := e
      exact hd i j hij hj (by omega))
    omega
  | succ m ih =>
    intro k h hk hw ha h22 h23 hl hp hq hno hd H
    have sk := (seq_ok r k).1
    refine w_M_laysLine_37 hs hw ⟨sk, fun c => ⟨sk, fun g e => ?_⟩, fun c => ⟨sk, fun g5 e5 => ?_⟩⟩
    · have ex : ∃ i, i < k ∧ seqA a f i = seqA a f k := by
        apply Classical.byContradiction
        intro q
        refine c (hq (seqA a f k).toNat (by omega) (fun i hi e => q ⟨i, hi, by omega⟩))
      obtain ⟨i, hi, ei⟩ := ex
      have ep := hp i hi
      rw [ei] at ep
      rw [ep] at e
      refine H g k i (by rw [e]; exact hw.put np_109_23) (by rw [e]; exact fr.rfl.put (Or.inr (by decide))) (Or.inr ⟨by omega, by rw [Int.toNat_natCast]; exact ei.symm, fun j hj => ?_, hd⟩) (by rw [e]; exact put_eq) ?_ ?_ (by omega)
      · rcases Nat.lt_or_ge j k with q | q
        · exact hno j q
        · rw [show j = k by omega, ← ei]; exact hno i hi
      · rw [if_neg (by omega), e, put_ne (by omega)]; exact h22
      · intro j hj
        rw [if_neg (by omega)] at hj
        rw [e, put_ne (by omega)]; exact hl j (by omega)
    · rw [h22] at e5
      have new : ∀ i, i < k → seqA a f i ≠ seqA a f k := by
        intro i hi ei
        have := hp i hi
        rw [ei, c] at this
        omega
      have e22 : g5.2.2.2 109 22 = k := by rw [e5, put_ne (by omega)]; exact h22
      rw [e22]
      refine ⟨by omega, fun g7 e7 g8 e8 => ?_⟩
      have e22b : g7.2.2.2 109 22 = k := by rw [e7, put_ne (by omega)]; exact e22
      rw [e22b, am_w_id (by omega) (by omega)] at e8
      have w8 : wf g8 := by rw [e8, e7, e5]; exact ((hw.pa (by decide +kernel)).pa (by decide +kernel)).put np_109_22
      have f8 : fr [117, 118] [(109, 22), (109, 23)] h g8 := by
        rw [e8, e7, e5]
        exact ((fr.rfl.put (Or.inl (by decide))).put (Or.inl (by decide))).put (Or.inr (by decide))
      have a8 : g8.2.2.2 110 = a := (f8.c 110 (by decide) (by decide)).trans ha
      have c22 : g8.2.2.2 109 22 = ((k + 1 : Nat) : Int) := by rw [e8, put_eq]; omega
      have c23 : g8.2.2.2 109 23 = -1 := by rw [e8, put_ne (by omega), e7, put_ne (by omega), e5, put_ne (by omega)]; exact h23
      have c117 : ∀ i, i < k + 1 → g8.2.2.2 117 i = seqA a f i := by
        intro i hi
        rw [e8, put_ne (by omega), e7, Int.toNat_natCast]
        simp only [put_at, true_and]
        by_cases q : i = k
        · rw [if_pos q, q]
        · rw [if_neg q, e5, put_ne (by omega)]; exact hl i (by omega)
      have c118 : ∀ j, g8.2.2.2 118 j = if j = (seqA a f k).toNat then (k : Int) else h.2.2.2 118 j := by
        intro j
        rw [e8, put_ne (by omega), e7, put_ne (by omega), e5]
        simp only [put_at, true_and]
      refine k_isOverT hs w8 a8 sk ⟨_, rfl, w8, fun c1 => ?_, fun c1 => ?_⟩
      · rw [i0] at c1
        rw [a8]
        refine k_beatToT hs w8 a8 r (seq_ok r k) c1 (fun g9 w9 f9 => ⟨_, rfl, w9, ?_⟩)
        have es : beatS a f (a 28) (seqA a f k) (-1) = seqA a f (k + 1) := by
          simp only [seqA]
          rw [if_neg c1]
          rfl
        rw [es]
        refine ih (k + 1) g9 (by omega) w9 ((f9.c 110 (by decide) (by simp)).trans a8) (by rw [f9.c 109 (by decide) (by simp)]; exact c22) (by rw [f9.c 109 (by decide) (by simp)]; exact c23) (fun i hi => by rw [f9.c 117 (by decide) (by simp)]; exact c117 i hi) ?_ ?_ ?_ ?_ (fun g n t wg fg => H g n t wg (((f8.mono (by decide) (by decide)).trans (f9.mono (by decide) (by simp))).trans fg))
        · intro i hi
          rw [f9.c 118 (by decide) (by simp), c118]
          by_cases q : i = k
          · rw [q, if_pos rfl]
          · have h1 := (seq_ok r i).1
            have h2 := new i (by omega)
            rw [if_neg (by omega)]; exact hp i (by omega)
        · intro j hj hn
          have := hn k (by omega)
          rw [f9.c 118 (by decide) (by simp), c118, if_neg (by omega)]
          exact hq j hj (fun i hi => hn i (by omega))
        · intro i hi
          by_cases q : i = k
          · rw [q]; exact c1
          · exact hno i (by omega)
        · intro i j hij hj
          by_cases q : j = k
          · rw [q]; exact new i (by omega)
          · exact hd i j hij (by omega)
      · rw [i0, Decidable.not_not] at c1
        refine H g8 k (-1) w8 (f8.mono (by decide) (by decide)) (Or.inl ⟨rfl, c1, hno⟩) c23 (by rw [if_pos rfl, c22]; omega) (fun i hi => ?_) (by omega)
        rw [if_pos rfl] at hi
        exact c117 i (by omega)
theorem k_laysLine (hs : am_sc scr) (hw : wf h) (ha : h.2.2.2 110 = a) (r : rok a f B) (H : ∀ g (n : Nat) (t : Int), wf g → fr [114, 115, 117, 118] [(109, 22), (109, 23)] h g → LN a f n t → g.2.2.2 109 23 = t → g.2.2.2 109 22 = (if t = -1 then (n : Int) + 1 else n) → (∀ i : Nat, (i : Int) < (if t = -1 then (n : Int) + 1 else n) → g.2.2.2 117 i = seqA a f i) → n ≤ 360 → Q none g) : am_R (am_prog scr) (d + 5) f_M_laysLine 0 [some (.inr (.inr ((109 : Nat) : Int))), none] [] h Q := by
  refine w_M_laysLine_0 hs hw ?_
  refine down (n := 360) (I := fillI h 118 0 (fun _ => -1)) (R := fun i g => am_R (am_prog scr) (d + 5) f_M_laysLine 2 [some (.inr (.inr ((109 : Nat) : Int))), some (.inl ((i : Int)))] [] g Q) ?_ ?_ 360 0 h rfl (fillI.zero hw)
  · intro g hI
    have ag : g.2.2.2 110 = a := (hI.other 110 (by omega)).trans ha
    refine w_M_laysLine_2 hs hI.1 ⟨fun _ => ?_, fun c => by omega⟩
    refine k_standNowA hs hI.1 ag r ⟨_, rfl, hI.1, fun g3 e3 g4 e4 => ?_⟩
    have w4 : wf g4 := by rw [e4, e3]; exact (hI.1.put np_109_22).put np_109_23
    have f4 : fr [] [(109, 22), (109, 23)] g g4 := by rw [e4, e3]; exact (fr.rfl.put (Or.inr (by decide))).put (Or.inr (by decide))
    refine k_laysLine_37 hs r 361 0 g4 rfl w4 ((f4.c 110 (by simp) (by decide)).trans ag) (by rw [e4, put_ne (by omega), e3, put_eq]; rfl) (by rw [e4, put_eq]) (fun i hi => by omega) (fun i hi => by omega) (fun j hj _ => ?_) (fun i hi => by omega) (fun i j _ hj => by omega) (fun g5 n t w5 f5 => H g5 n t w5 (((hI.2.1.mono (by decide) (by simp)).trans (f4.mono (by simp) (by decide))).trans f5))
    rw [f4.c 118 (by simp) (by decide), hI.2.2 j, if_pos (by omega)]
  · intro i g hi hI k
    refine w_M_laysLine_2 hs hI.1 ⟨fun c => by omega, fun c => ⟨by omega, fun g1 q1 y hy => ?_⟩⟩
    rw [am_w_id (by omega) (by omega)] at hy
    subst hy
    refine k g1 ?_
    rw [q1]
    exact hI.put (by decide +kernel) (by omega) rfl
theorem k_goesHow (hs : am_sc scr) (hw : wf h) (ha : h.2.2.2 110 = a) (r : rok a f B) (H : ∀ g (n : Nat) (t : Int), wf g → fr [114, 115, 117, 118] [(109, 22), (109, 23)] h g → LN a f n t → g.2.2.2 109 22 = (if t = -1 then (n : Int) + 1 else n) → n ≤ 360 → Q (some (.inl (q_goes a f n t 0))) g) : am_R (am_prog scr) (d + 6) f_M_goesHow 0 [some (.inr (.inr ((109 : Nat) : Int)))] [] h Q := by
  refine w_M_goesHow_0 hs hw ?_
  refine k_laysLine hs hw ha r (fun g n t wg fg ln e23 e22 el hn => ⟨rfl, wg, ?_⟩)
  have ag : g.2.2.2 110 = a := (fg.c 110 (by decide) (by decide)).trans ha
  have HH := H g n t wg fg ln e22 hn
  unfold q_goes at HH
  rw [if_pos rfl] at HH
  rw [e23]
  refine ⟨fun c => ?_, fun c => ?_⟩
  · rw [if_pos c] at HH e22 el
    have el := el n (by omega)
    rw [e22, am_w_id (by omega) (by omega)]
    refine ⟨by omega, ?_⟩
    rw [show ((n : Int) + 1 - 1).toNat = n by omega, el]
    refine k_hasEnded hs wg (seq_ok r n).1 ⟨_, rfl, wg, ?_⟩
    rw [ag]
    refine ⟨fun c2 => ?_, fun c2 => ?_⟩
    · rw [i0] at c2; rw [if_neg c2] at HH; exact HH
    · rw [i0, Decidable.not_not] at c2; rw [if_pos c2] at HH; exact HH
  · rw [if_neg c] at HH; exact HH
theorem k_Mgoes {w : Int} (hs : am_sc scr) (hw : wf h) (ha : h.2.2.2 110 = a) (r : rok a f B) (H : ∀ g v, wf g → fr [114, 115, 117, 118] [(109, 0), (109, 22), (109, 23)] h g → ((0 ≤ w ∧ w ≤ 1 → ∃ (n : Nat) (t : Int), LN a f n t ∧ v = q_goes a f n t w) ∧ (¬ (0 ≤ w ∧ w ≤ 1) → v = -2)) → Q (some (.inl (v))) g) : am_R (am_prog scr) (d + 7) f_M_goes 0 [some (.inr (.inr ((109 : Nat) : Int))), some (.inl (w)), none] [] h Q := by
  refine w_M_goes_0 hs hw (fun g1 q1 => ?_)
  have w1 : wf g1 := by rw [q1]; exact (put0 hw).1
  have f0 : fr [] [(109, 0)] h g1 := by rw [q1]; exact (put0 hw).2
  have a1 : g1.2.2.2 110 = a := (f0.c 110 (by simp) (by decide)).trans ha
  have f1 : fr [114, 115, 117, 118] [(109, 0), (109, 22), (109, 23)] h g1 := f0.mono (by simp) (by decide)
  refine k_within hs w1 ⟨_, rfl, w1, fun c => ?_, fun c => ?_⟩
  · rw [i0, Decidable.not_not] at c
    refine k_goesHow hs w1 a1 r (fun g n t wg fg ln e22 hn => ⟨_, rfl, wg, ?_⟩)
    have ff := f1.trans (fg.mono (M := [114, 115, 117, 118]) (G := [(109, 0), (109, 22), (109, 23)]) (by decide) (by decide))
    have HH := fun v e => H g v wg ff ⟨fun _ => ⟨n, t, ln, e⟩, fun q => absurd c q⟩
    refine ⟨fun c2 => ?_, fun c2 => ?_⟩
    · rw [e22]
      by_cases q : t = -1
      · have g2 : q_goes a f n t 0 ≠ 2 := by unfold q_goes; rw [if_pos rfl, if_pos q]; split <;> omega
        rw [if_pos q]
        refine ⟨fun _ => ?_, fun c3 => absurd c3 g2⟩
        rw [am_w_id (by omega) (by omega)]
        exact HH _ (by unfold q_goes; rw [if_neg c2, if_pos q]; omega)
      · have g2 : q_goes a f n t 0 = 2 := by unfold q_goes; rw [if_pos rfl, if_neg q]
        exact ⟨fun c3 => absurd g2 c3, fun _ => HH _ (by unfold q_goes; rw [if_neg c2, if_neg q])⟩
    · subst c2; exact HH _ rfl
  · rw [i0] at c
    exact H g1 _ w1 f1 ⟨fun q => absurd q c, fun _ => rfl⟩
theorem k_Mlies {k : Int} (hs : am_sc scr) (hw : wf h) (ha : h.2.2.2 110 = a) (r : rok a f B) (H : ∀ g v, wf g → fr [114, 115, 117, 118] [(109, 0), (109, 22), (109, 23)] h g → ((1 ≤ k ∧ k ≤ 99999 → ∃ (n : Nat) (t : Int), LN a f n t ∧ v = q_lies a f n t k) ∧ (¬ (1 ≤ k ∧ k ≤ 99999) → v = -3)) → Q (some (.inl (v))) g) : am_R (am_prog scr) (d + 6) f_M_lies 0 [some (.inr (.inr ((109 : Nat) : Int))), some (.inl (k)), none] [] h Q := by
  refine w_M_lies_0 hs hw (fun g1 q1 => ?_)
  have w1 : wf g1 := by rw [q1]; exact (put0 hw).1
  have f0 : fr [] [(109, 0)] h g1 := by rw [q1]; exact (put0 hw).2
  have a1 : g1.2.2.2 110 = a := (f0.c 110 (by simp) (by decide)).trans ha
  have f1 : fr [114, 115, 117, 118] [(109, 0), (109, 22), (109, 23)] h g1 := f0.mono (by simp) (by decide)
  refine k_within hs w1 ⟨_, rfl, w1, fun c => ?_, fun c => ?_⟩
  · rw [i0, Decidable.not_not] at c
    refine k_laysLine hs w1 a1 r (fun g n t wg fg ln e23 e22 el hn => ⟨rfl, wg, ?_⟩)
    have ff := f1.trans (fg.mono (M := [114, 115, 117, 118]) (G := [(109, 0), (109, 22), (109, 23)]) (by decide) (by decide))
    have HH := fun v e => H g v wg ff ⟨fun _ => ⟨n, t, ln, e⟩, fun q => absurd c q⟩
    rw [e23, e22]
    refine ⟨fun c2 => ?_, fun c2 => ?_⟩
    · rw [if_neg c2] at el ⊢
      have tb : 0 ≤ t ∧ t < n := by
        rcases ln with q | q
        · exact absurd q.1 c2
        · exact q.1
      refine ⟨fun c3 => ?_, fun c3 => ⟨by omega, ?_⟩⟩
      · rw [am_w_id (x := (n : Int) - t) (by omega) (by omega), am_w_id (x := k - t) (by omega) (by omega), tm (by omega)]
        have m1 := Int.emod_nonneg (k - t) (b := (n : Int) - t) (by omega)
        have m2 := Int.emod_lt_of_pos (k - t) (b := (n : Int) - t) (by omega)
        refine ⟨by omega, fun y hy => ?_⟩
        rw [am_w_id (by omega) (by omega)] at hy
        refine ⟨by omega, ?_⟩
        rw [el y.toNat (by omega)]
        refine k_lastIn hs wg (by have := (seq_ok r y.toNat).1; omega) ⟨_, rfl, wg, HH _ ?_⟩
        unfold q_lies
        rw [if_neg c2, if_neg c3, hy]
      · rw [el k.toNat (by omega)]
        refine k_lastIn hs wg (by have := (seq_ok r k.toNat).1; omega) ⟨_, rfl, wg, HH _ ?_⟩
        unfold q_lies
        rw [if_neg c2, if_pos c3]
    · rw [if_pos c2] at el ⊢
      refine ⟨fun c3 => HH _ ?_, fun c3 => ⟨by omega, ?_⟩⟩
      · unfold q_lies
        rw [if_pos c2, if_neg (by omega)]
      · rw [el k.toNat (by omega), tm (seq_ok r k.toNat).1.1]
        refine ⟨fun c4 => ⟨by omega, ?_⟩, fun c4 => HH _ ?_⟩
        · refine k_lastIn hs wg (by have := (seq_ok r k.toNat).1; omega) ⟨_, rfl, wg, HH _ ?_⟩
          unfold q_lies
          rw [if_pos c2, if_pos (by omega), if_neg c4]
        · unfold q_lies
          rw [if_pos c2, if_pos (by omega), if_pos c4]
  · rw [i0] at c
    exact H g1 _ w1 f1 ⟨fun q => absurd q c, fun _ => rfl⟩
theorem k_Mround {w : Int} (hs : am_sc scr) (hw : wf h) (ha : h.2.2.2 110 = a) (r : rok a f B) (H : ∀ g v, wf g → fr [114, 115, 117, 118] [(109, 0), (109, 22), (109, 23)] h g → ((0 ≤ w ∧ w ≤ 1 → ∃ (n : Nat) (t : Int), LN a f n t ∧ v = q_round n t w) ∧ (¬ (0 ≤ w ∧ w ≤ 1) → v = -2)) → Q (some (.inl (v))) g) : am_R (am_prog scr) (d + 6) f_M_round 0 [some (.inr (.inr ((109 : Nat) : Int))), some (.inl (w))] [] h Q := by
  refine w_M_round_0 hs hw (fun g1 q1 => ?_)
  have w1 : wf g1 := by rw [q1]; exact (put0 hw).1
  have f0 : fr [] [(109, 0)] h g1 := by rw [q1]; exact (put0 hw).2
  have a1 : g1.2.2.2 110 = a := (f0.c 110 (by simp) (by decide)).trans ha
  have f1 : fr [114, 115, 117, 118] [(109, 0), (109, 22), (109, 23)] h g1 := f0.mono (by simp) (by decide)
  refine k_within hs w1 ⟨_, rfl, w1, fun c => ?_, fun c => ?_⟩
  · rw [i0, Decidable.not_not] at c
    refine k_laysLine hs w1 a1 r (fun g n t wg fg ln e23 e22 el hn => ⟨rfl, wg, ?_⟩)
    have ff := f1.trans (fg.mono (M := [114, 115, 117, 118]) (G := [(109, 0), (109, 22), (109, 23)]) (by decide) (by decide))
    have HH := fun v e => H g v wg ff ⟨fun _ => ⟨n, t, ln, e⟩, fun q => absurd c q⟩
    unfold q_round at HH
    rw [e23, e22]
    refine ⟨fun c2 => ?_, fun c2 => ?_⟩
    · have tb : 0 ≤ t ∧ t < n := by
        rcases ln with q | q
        · exact absurd q.1 c2
        · exact q.1
      rw [if_neg c2] at HH ⊢
      refine ⟨fun c3 => ?_, fun c3 => ?_⟩
      · rw [am_w_id (by omega) (by omega)]
        exact HH _ (by rw [if_neg c3])
      · exact HH _ (by rw [if_pos c3])
    · exact HH _ (by rw [if_pos c2])
  · rw [i0] at c
    exact H g1 _ w1 f1 ⟨fun q => absurd q c, fun _ => rfl⟩
theorem k_Mlists_51 {t w z : Int} {n : Nat} (hs : am_sc scr) (r : rok a f B) (ht : 0 ≤ t ∧ t ≤ 3) (hn : n ≤ 40) : ∀ (m k : Nat) (h : am_H), k + m = n → wf h → h.2.2.2 110 = a → h.2.2.2 131 t.toNat = n → (∀ g, wf g → fr [114, 115, 132] [] h g → (∀ j, g.2.2.2 132 j = if 40 * t.toNat + k ≤ j ∧ j < 40 * t.toNat + lisN a f m k then lisV a f w (j - 40 * t.toNat) else h.2.2.2 132 j) → Q (some (.inl ((lisN a f m k : Int)))) g) → am_R (am_prog scr) (d + 5) f_M_lists 51 [some (.inr (.inr ((109 : Nat) : Int))), some (.inl (t)), some (.inl (w)), some (.inl (z)), some (.inl (seqA a f k)), some (.inl ((k : Int)))] [] h Q := by
  intro m
  induction m with
  | zero =>
    intro k h hk hw ha h131 H
    refine w_M_lists_51 hs hw ⟨by omega, ?_⟩
    rw [h131]
    refine ⟨fun _ => ⟨by omega, ?_⟩, fun c => by omega⟩
    have HH := H h hw fr.rfl (fun j => by rw [if_neg (by simp only [lisN]; omega)])
    simp only [lisN] at HH
    rw [show n = k by omega]; exact HH
  | succ m ih =>
    intro k h hk hw ha h131 H
    have sk := seq_ok r k
    refine w_M_lists_51 hs hw ⟨by omega, ?_⟩
    rw [h131]
    refine ⟨fun c => by omega, fun _ => ?_⟩
    refine k_isOverT hs hw ha sk.1 ⟨_, rfl, hw, fun c1 => ?_, fun c1 => ?_⟩
    · rw [i0] at c1
      rw [ha]
      refine k_beatToT hs hw ha r sk c1 (fun g wg fg => ⟨_, rfl, wg, ?_⟩)
      have es : beatS a f (a 28) (seqA a f k) (-1) = seqA a f (k + 1) := by
        simp only [seqA]
        rw [if_neg c1]
        rfl
      have sk1 := seq_ok r (k + 1)
      rw [es, tm sk1.1.1]
      have f1 : fr [114, 115, 132] [] h g := fg.mono (by decide) (by simp)
      have g132 : g.2.2.2 132 = h.2.2.2 132 := fg.c 132 (by decide) (by simp)
      have e40 : am_w (am_w (40 * t) + (k : Int)) = 40 * t + (k : Int) := by simp (disch := omega) only [am_w_id, am_W_id]
      have eL : ¬ (seqA a f (k + 1) % 2 = 1) → lisN a f (m + 1) k = lisN a f m (k + 1) := by
        intro c2
        simp only [lisN]
        rw [if_neg]
        intro q
        rcases q with q | q
        · exact c1 q
        · exact c2 q
      have cont : ¬ (seqA a f (k + 1) % 2 = 1) → ∀ (v : Int) (g2 : am_H), v = lisV a f w k → g2 = am_put g 132 (40 * t + (k : Int)).toNat v → ∀ y, y = am_w ((k : Int) + 1) → am_R (am_prog scr) (d + 5) f_M_lists 51 [some (.inr (.inr ((109 : Nat) : Int))), some (.inl (t)), some (.inl (w)), some (.inl (z)), some (.inl (seqA a f (k + 1))), some (.inl (y))] [] g2 Q := by
        intro c2 v g2 hv e2 y hy
        rw [am_w_id (by omega) (by omega)] at hy
        obtain rfl : y = ((k + 1 : Nat) : Int) := by omega
        have f2 : fr [132] [] g g2 := by rw [e2]; exact fr.rfl.put (Or.inl (by decide))
        refine ih (k + 1) g2 (by omega) (by rw [e2]; exact wg.pa (by decide +kernel)) (((f2.c 110 (by decide) (by simp)).trans (fg.c 110 (by decide) (by simp))).trans ha) (by rw [f2.c 131 (by decide) (by simp), fg.c 131 (by decide) (by simp)]; exact h131) (fun g3 w3 f3 e3 => ?_)
        rw [← eL c2]
        have lb := lisN_b (a := a) (f := f) m (k + 1)
        refine H g3 w3 ((f1.trans (f2.mono (by decide) (by simp))).trans f3) (fun j => ?_)
        rw [e3 j, eL c2, e2]
        simp only [put_at, true_and]
        rw [g132]
        by_cases q : j = (40 * t + (k : Int)).toNat
        · rw [if_neg (by omega), if_pos q, if_pos (by omega), hv, show j - 40 * t.toNat = k by omega]
        · by_cases q2 : 40 * t.toNat + (k + 1) ≤ j ∧ j < 40 * t.toNat + lisN a f m (k + 1)
          · rw [if_pos q2, if_pos (by omega)]
          · rw [if_neg q2, if_neg q, if_neg (by omega)]
      refine ⟨fun c2 => ⟨fun c3 => ?_, fun c3 => ?_⟩, fun c2 => ?_⟩
      · refine k_soundIn hs wg (by have := sk1.1; omega) ⟨_, rfl, wg, ?_⟩
        rw [e40]
        exact ⟨by omega, fun g2 e2 y hy => cont c2 _ g2 (by unfold lisV; rw [if_neg c3]) e2 y hy⟩
      · refine k_lastIn hs wg (by have := sk1.1; omega) ⟨_, rfl, wg, ?_⟩
        rw [e40]
        exact ⟨by omega, fun g2 e2 y hy => cont c2 _ g2 (by unfold lisV; rw [if_pos c3]) e2 y hy⟩
      · have e : lisN a f (m + 1) k = k := by
          simp only [lisN]; rw [if_pos (Or.inr c2)]
        have HH := H g wg f1 (fun j => by rw [e, g132, if_neg (by omega)])
        rw [e] at HH; exact HH
    · rw [i0, Decidable.not_not] at c1
      have e : lisN a f (m + 1) k = k := by
        simp only [lisN]; rw [if_pos (Or.inl c1)]
      have HH := H h hw fr.rfl (fun j => by rw [e, if_neg (by omega)])
      rw [e] at HH; exact HH
theorem k_Mlists {t w : Int} {n : Nat} (hs : am_sc scr) (hw : wf h) (ha : h.2.2.2 110 = a) (r : rok a f B) (ht : (0 ≤ t ∧ t ≤ 3) → h.2.2.2 130 t.toNat ≠ -1 → n ≤ 40 ∧ h.2.2.2 131 t.toNat = n) (H : ∀ g, wf g → fr [114, 115, 132] [(109, 0)] h g → (∀ j, g.2.2.2 132 j = if ((0 ≤ t ∧ t ≤ 3) ∧ (0 ≤ w ∧ w ≤ 1) ∧ h.2.2.2 130 t.toNat ≠ -1) ∧ 40 * t.toNat ≤ j ∧ j < 40 * t.toNat + lisN a f n 0 then lisV a f w (j - 40 * t.toNat) else h.2.2.2 132 j) → Q (some (.inl (if (0 ≤ t ∧ t ≤ 3) ∧ (0 ≤ w ∧ w ≤ 1) then (if h.2.2.2 130 t.toNat = -1 then -6 else (lisN a f n 0 : Int)) else -2))) g) : am_R (am_prog scr) (d + 6) f_M_lists 0 [some (.inr (.inr ((109 : Nat) : Int))), some (.inl (t)), some (.inl (w)), none, none, none] [] h Q := by
  refine w_M_lists_0 hs hw (fun g1 q1 => ?_)
  have w1 : wf g1 := by rw [q1]; exact (put0 hw).1
  have f0 : fr [] [(109, 0)] h g1 := by rw [q1]; exact (put0 hw).2
  have a1 : g1.2.2.2 110 = a := (f0.c 110 (by simp) (by decide)).trans ha
  have f1 : fr [114, 115, 132] [(109, 0)] h g1 := f0.mono (by simp) (by decide)
  have e132 := f0.c 132 (by simp) (by decide)
  refine k_within hs w1 ⟨_, rfl, w1, fun c => ?_, fun c => ?_⟩
  · rw [i0] at c
    have HH := H g1 w1 f1 (fun j => by rw [e132, if_neg (fun q => c q.1.1)])
    rw [if_neg (fun q => c q.1)] at HH; exact HH
  · rw [i0, Decidable.not_not] at c
    refine k_within hs w1 ⟨_, rfl, w1, fun c2 => ?_, fun c2 => ?_⟩
    · rw [i0, Decidable.not_not] at c2
      refine k_noTray hs w1 ⟨_, rfl, w1, ?_⟩
      rw [f0.c 130 (by simp) (by decide), if_pos c]
      refine ⟨fun c3 => ?_, fun c3 => ?_⟩
      · have c4 : h.2.2.2 130 t.toNat ≠ -1 := by
          intro q; rw [if_pos q] at c3; omega
        obtain ⟨t1, t2⟩ := ht c c4
        refine k_standNowA hs w1 a1 r ⟨_, rfl, w1, ?_⟩
        have k := k_Mlists_51 (d := d + 1) (Q := Q) (w := w) (z := (if h.2.2.2 130 t.toNat = -1 then -6 else 0)) hs r c t1 n 0 g1 (by omega) w1 a1 (by rw [f0.c 131 (by simp) (by decide)]; exact t2) (fun g2 w2 f2 e2 => ?_)
        · exact k
        · have HH := H g2 w2 (f1.trans (f2.mono (by decide) (by simp))) (fun j => ?_)
          · rw [if_pos ⟨c, c2⟩, if_neg c4] at HH; exact HH
          · rw [e2 j, e132]
            by_cases q : 40 * t.toNat + 0 ≤ j ∧ j < 40 * t.toNat + lisN a f n 0
            · rw [if_pos q, if_pos ⟨⟨c, c2, c4⟩, q⟩]
            · rw [if_neg q, if_neg (fun q2 => q q2.2)]
      · have c4 : h.2.2.2 130 t.toNat = -1 := by
          apply Decidable.byContradiction; intro q; rw [if_neg q] at c3; omega
        have HH := H g1 w1 f1 (fun j => by rw [e132, if_neg (fun q => q.1.2.2 c4)])
        rw [if_pos ⟨c, c2⟩, if_pos c4] at HH
        rw [if_pos c4]; exact HH
    · rw [i0] at c2
      have HH := H g1 w1 f1 (fun j => by rw [e132, if_neg (fun q => c2 q.1.2.1)])
      rw [if_neg (fun q => c2 q.2)] at HH; exact HH
end LM
