/-! what was said: what is meant, and the reference -/
/-- by hush hu, left alone, those are heard -/
def sdA (a : Nat → Int) (f : Nat → (Nat → Int) → Int) (num : Nat → Int) (n : Nat) (hu : Int) : Prop := ∀ i, i < n → ¬ ovT a (seqA (huA a hu) f i) ∧ ¬ seqA (huA a hu) f (i + 1) % 2 = 1 ∧ lastI (seqA (huA a hu) f (i + 1)) = num i
def gvA (a : Nat → Int) (f : Nat → (Nat → Int) → Int) (dd : Int) (hu : Nat) : Int := if ovA a then 99 else if beatS a f (hu : Int) (stA a) (dd - 1) % 2 = 1 then 99 else 10 * lastI (beatS a f (hu : Int) (stA a) (dd - 1)) + soundI (beatS a f (hu : Int) (stA a) (dd - 1))
def cnA (a : Nat → Int) (f : Nat → (Nat → Int) → Int) (z dd : Int) (k m : Nat) : Int := sumZ (fun i => if z.toNat.testBit i = true ∧ gvA a f dd i = gvA a f dd k then 1 else 0) m
def mxA (a : Nat → Int) (f : Nat → (Nat → Int) → Int) (z dd : Int) : Nat → Int
  | 0 => 0
  | k + 1 => if (if z.toNat.testBit k = true then cnA a f z dd k 10 else 0) ≤ mxA a f z dd k then mxA a f z dd k else (if z.toNat.testBit k = true then cnA a f z dd k 10 else 0)
def atA (a : Nat → Int) (f : Nat → (Nat → Int) → Int) (z : Int) : Nat → Int × Int
  | 0 => (-1, 268435456)
  | k + 1 => if mxA a f z (k : Int) 10 < (atA a f z k).2 then ((k : Int), mxA a f z (k : Int) 10) else atA a f z k
/-- what hushes and attempt answer -/
def hsA (a : Nat → Int) (f : Nat → (Nat → Int) → Int) (num : Nat → Int) (n : Nat) (z : Int) : Prop := (rfH 0 (a 4) num n ≠ 0 → z = rfH 0 (a 4) num n) ∧ (rfH 0 (a 4) num n = 0 → isBits z 10 (fun k => sdA a f num n (k : Int)))
def atP (a : Nat → Int) (f : Nat → (Nat → Int) → Int) (num : Nat → Int) (n : Nat) (w : Int) : Prop := (rfH 0 (a 4) num n ≠ 0 → w = rfH 0 (a 4) num n) ∧ (rfH 0 (a 4) num n = 0 → ∃ z, isBits z 10 (fun k => sdA a f num n (k : Int)) ∧ w = if z = 0 then -1 else (atA a f z (a 4 + 1).toNat).1)
theorem hsA.uniq {a : Nat → Int} {f : Nat → (Nat → Int) → Int} {num : Nat → Int} {n : Nat} {z w : Int} (x : hsA a f num n z) (y : hsA a f num n w) : z = w := by
  by_cases q : rfH 0 (a 4) num n = 0
  · exact (x.2 q).uniq (y.2 q)
  · rw [x.1 q, y.1 q]
theorem atP.uniq {a : Nat → Int} {f : Nat → (Nat → Int) → Int} {num : Nat → Int} {n : Nat} {z w : Int} (x : atP a f num n z) (y : atP a f num n w) : z = w := by
  by_cases q : rfH 0 (a 4) num n = 0
  · obtain ⟨z1, h1, e1⟩ := x.2 q
    obtain ⟨z2, h2, e2⟩ := y.2 q
    rw [e1, e2, h1.uniq h2]
  · rw [x.1 q, y.1 q]
section HU
variable {a : Nat → Int} {f : Nat → (Nat → Int) → Int} {num : Nat → Int} {n : Nat} {B : Int}
theorem huA_e {m : Int} {j : Nat} (hj : j ≠ 28) : huA a m j = a j := if_neg hj
theorem huA_st {m : Int} : stA (huA a m) = stA a := by
  unfold stA
  rw [huA_e (by omega), huA_e (by omega), huA_e (by omega), huA_e (by omega)]
theorem farS_hu {m s l : Int} (hs : 0 ≤ s ∧ s < 6) (hl : 0 ≤ l ∧ l < 6) : farS (huA a m) s l = farS a s l := by
  unfold farS
  rw [huA_e (by omega), huA_e (by omega)]
theorem envS_hu {m s hu st : Int} (hs : 0 ≤ s ∧ s < 6) (hst : 0 ≤ st) : envS (huA a m) hu st s = envS a hu st s := by
  funext k
  unfold envS
  rw [farS_hu hs (lastI_b hst), huA_e (by omega)]
theorem wouldS_hu {m s hu st : Int} (hs : 0 ≤ s ∧ s < 6) (hst : 0 ≤ st) : wouldS (huA a m) f hu st s = wouldS a f hu st s := by
  unfold wouldS
  rw [envS_hu hs hst, farS_hu hs (lastI_b hst), huA_e (by omega)]
theorem snS_hu {m hu st wk : Int} (hst : 0 ≤ st) : ∀ n, n ≤ 6 → snS (huA a m) f hu st wk n = snS a f hu st wk n := by
  intro n
  induction n with
  | zero => intro _; rfl
  | succ n ih =>
    intro hn
    simp only [snS]
    rw [ih (by omega), wouldS_hu (by omega) hst]
theorem beatS_hu (ok : wok a f) {m hu st wk : Int} (hst : 0 ≤ st) : beatS (huA a m) f hu st wk = beatS a f hu st wk := by
  have sb := snorS_b ok (hu := hu) (wk := wk) hst
  have h4 := ok.1
  have es : snorS (huA a m) f hu st wk = snorS a f hu st wk := by
    unfold snorS
    rw [huA_e (by omega), snS_hu hst _ (by omega)]
  unfold beatS
  rw [es]
  by_cases q : snorS a f hu st wk = -1
  · rw [if_pos q, if_pos q]
  · rw [if_neg q, if_neg q]
    have e : toneS (huA a m) f hu st (snorS a f hu st wk) = toneS a f hu st (snorS a f hu st wk) := by
      unfold toneS
      rw [envS_hu (by omega) hst, huA_e (j := 7) (by omega), huA_e (j := 2) (by omega), huA_e (j := (22 + snorS a f hu st wk).toNat) (by omega)]
    rw [e, huA_e (j := 5) (by omega)]
theorem ov_hu {m st : Int} : ovT (huA a m) st ↔ ovT a st := by
  show (actI st = huA a m 3 ∨ st % 2 = 1) ↔ _
  rw [huA_e (by omega)]
theorem seq_hu (r : rok a f B) {hu : Int} (hh : 0 ≤ hu ∧ hu ≤ 9) (i : Nat) : stOk a (seqA (huA a hu) f i) := by
  have := seq_ok (huA_ok r hh) i
  unfold stOk at this ⊢
  rw [huA_e (j := 3) (by omega), huA_e (j := 4) (by omega), huA_e (j := 2) (by omega)] at this
  exact this
theorem seq_hu1 (r : rok a f B) {hu : Int} (hh : 0 ≤ hu ∧ hu ≤ 9) {i : Nat} (ho : ¬ ovT a (seqA (huA a hu) f i)) : seqA (huA a hu) f (i + 1) = beatS a f hu (seqA (huA a hu) f i) (-1) := by
  simp only [seqA]
  rw [if_neg (fun q => ho (ov_hu.mp q))]
  show beatS (huA a hu) f (huA a hu 28) (seqA (huA a hu) f i) (0 - 1) = _
  have e : huA a hu 28 = hu := if_pos rfl
  rw [e, beatS_hu r.1 (seq_hu r hh i).1.1]
  rfl
theorem gvA_b (r : rok a f B) {dd : Int} {hu : Nat} : 0 ≤ gvA a f dd hu := by
  unfold gvA
  split
  · omega
  · rename_i q
    have so := (beatS_ok r.1 r.ok (hu := (hu : Int)) (wk := dd - 1) (fun z => q (r.over.mp z))).1
    have l1 := lastI_b so.1
    have l2 := soundI_b so.1
    split <;> omega
theorem cnA_b {z dd : Int} {k : Nat} : ∀ m : Nat, 0 ≤ cnA a f z dd k m ∧ cnA a f z dd k m ≤ (m : Int) := by
  intro m
  unfold cnA
  induction m with
  | zero => simp [sumZ]
  | succ m ih => rw [sumZ_succ]; split <;> omega
theorem mxA_b {z dd : Int} : ∀ m : Nat, 0 ≤ mxA a f z dd m ∧ mxA a f z dd m ≤ 10 := by
  intro m
  induction m with
  | zero => simp [mxA]
  | succ m ih =>
    have := cnA_b (a := a) (f := f) (z := z) (dd := dd) (k := m) 10
    simp only [mxA]
    repeat' split
    all_goals omega
end HU
section SM
variable {scr : Nat × (Nat → Int)} {d : Nat} {h : am_H} {Q : Option am_V → am_H → Prop} {a : Nat → Int} {f : Nat → (Nat → Int) → Int} {B : Int} {num : Nat → Int} {n : Nat} {t : Int}
theorem k_noSaid (hs : am_sc scr) (hw : wf h) (ha : h.2.2.2 110 = a) (r : rok a f B) (ht : (0 ≤ t ∧ t ≤ 3) → h.2.2.2 130 t.toNat ≠ -1 → trM h t n num) (H : Q (some (.inl (if 0 ≤ t ∧ t ≤ 3 then (if h.2.2.2 130 t.toNat = -1 then -6 else rfH 0 (a 4) num n) else -2))) h) : am_R (am_prog scr) (d + 2) f_M_noSaid 0 [some (.inr (.inr ((109 : Nat) : Int))), some (.inl (t)), none, none] [] h Q := by
  have h4 := r.1.1
  refine w_M_noSaid_0 hs hw ?_
  refine k_noTray hs hw ⟨_, rfl, hw, fun c => ?_, fun c => ?_⟩
  · have c3 : 0 ≤ t ∧ t ≤ 3 := by
      apply Decidable.byContradiction; intro q; rw [if_neg q] at c; omega
    rw [if_pos c3] at c H
    have c4 : h.2.2.2 130 t.toNat ≠ -1 := by
      intro q; rw [if_pos q] at c; omega
    rw [if_neg c4] at H
    obtain ⟨t1, t2, t3⟩ := ht c3 c4
    rw [t2]
    unfold rfH at H
    refine ⟨by omega, k_within hs hw ⟨_, rfl, hw, fun c5 => ?_, fun c5 => ?_⟩⟩
    · rw [i0, Decidable.not_not] at c5
      rw [if_pos (by omega)] at H
      generalize (if 0 ≤ t ∧ t ≤ 3 then (if h.2.2.2 130 t.toNat = -1 then (-6 : Int) else 0) else -2) = zz
      have lp : ∀ (m k : Nat), k + m = n → (∀ i, i < k → 0 ≤ num i ∧ num i < a 4) → am_R (am_prog scr) (d + 2) f_M_noSaid 34 [some (.inr (.inr ((109 : Nat) : Int))), some (.inl (t)), some (.inl (zz)), some (.inl ((k : Int)))] [] h Q := by
        intro m
        induction m with
        | zero =>
          intro k hk ok
          refine w_M_noSaid_34 hs hw ⟨by omega, fun _ => ?_, fun c => by omega⟩
          rw [if_pos (rgB_t.mpr (fun i hi => ok i (by omega)))] at H
          exact H
        | succ m ih =>
          intro k hk ok
          refine w_M_noSaid_34 hs hw ⟨by omega, fun c => by omega, fun _ => ?_⟩
          have ix : am_w (am_w (40 * t) + (k : Int)) = 40 * t + k := by rw [am_w_id (x := 40 * t) (by omega) (by omega), am_w_id (by omega) (by omega)]
          have nk := t3 k (by omega)
          unfold numM at nk
          rw [ix, show (40 * t + (k : Int)).toNat = 40 * t.toNat + k by omega, nk]
          refine ⟨by omega, k_isSleeper hs hw (by rw [ha]; exact h4) (fun z hz => ⟨_, rfl, hw, fun c6 y hy => ?_, fun c6 => ?_⟩)⟩
          · rw [ha] at hz
            rw [am_w_id (by omega) (by omega)] at hy
            obtain rfl : y = ((k + 1 : Nat) : Int) := by omega
            refine ih (k + 1) (by omega) (fun i hi => ?_)
            by_cases q : i = k
            · rw [q]; omega
            · exact ok i (by omega)
          · rw [ha] at hz
            rw [if_neg (fun z => by have := rgB_t.mp z k (by omega); omega)] at H
            exact H
      exact lp n 0 (by omega) (fun i hi => by omega)
    · rw [i0] at c5
      rw [if_neg (by omega)] at H
      exact H
  · by_cases c3 : 0 ≤ t ∧ t ≤ 3
    · rw [if_pos c3] at c H ⊢
      by_cases c4 : h.2.2.2 130 t.toNat = -1
      · rw [if_pos c4] at H ⊢; exact H
      · rw [if_neg c4] at c; omega
    · rw [if_neg c3] at H ⊢; exact H
theorem k_isSaid {hu : Int} (hs : am_sc scr) (hw : wf h) (ha : h.2.2.2 110 = a) (r : rok a f B) (hh : 0 ≤ hu ∧ hu ≤ 9) (ht : 0 ≤ t ∧ t ≤ 3) (tr : trM h t n num) (H : ∀ g z, wf g → fr [114, 115] [] h g → (z = 1 ∧ sdA a f num n hu) ∨ (z = 0 ∧ ¬ sdA a f num n hu) → Q (some (.inl (z))) g) : am_R (am_prog scr) (d + 5) f_M_isSaid 0 [some (.inr (.inr ((109 : Nat) : Int))), some (.inl (t)), some (.inl (hu)), none, none] [] h Q := by
  obtain ⟨t1, t2, t3⟩ := tr
  have lp : ∀ (m i : Nat) (g : am_H), i + m = n → wf g → fr [114, 115] [] h g → (∀ j, j < i → ¬ ovT a (seqA (huA a hu) f j) ∧ ¬ seqA (huA a hu) f (j + 1) % 2 = 1 ∧ lastI (seqA (huA a hu) f (j + 1)) = num j) → am_R (am_prog scr) (d + 5) f_M_isSaid 8 [some (.inr (.inr ((109 : Nat) : Int))), some (.inl (t)), some (.inl (hu)), some (.inl (seqA (huA a hu) f i)), some (.inl ((i : Int)))] [] g Q := by
    intro m
    induction m with
    | zero =>
      intro i g hi wg fg ok
      refine w_M_isSaid_8 hs wg ⟨by omega, ?_⟩
      rw [fg.c 131 (by decide) (by simp), t2]
      exact ⟨fun _ => H g 1 wg fg (Or.inl ⟨rfl, fun j hj => ok j (by omega)⟩), fun c => by omega⟩
    | succ m ih =>
      intro i g hi wg fg ok
      have so := seq_hu (f := f) r hh i
      refine w_M_isSaid_8 hs wg ⟨by omega, ?_⟩
      rw [fg.c 131 (by decide) (by simp), t2]
      refine ⟨fun c => by omega, fun _ => ?_⟩
      have ag : g.2.2.2 110 = a := (fg.c 110 (by decide) (by simp)).trans ha
      refine k_isOverT hs wg ag so.1 ⟨_, rfl, wg, fun c => ?_, fun c => ?_⟩
      · rw [i0] at c
        refine k_beatTo hs wg ag r.1 so.1 (by have := so.2.1; have : ¬ actI (seqA (huA a hu) f i) = a 3 := fun q => c (Or.inl q); omega) (by omega) (fun g4 w4 f4 => ⟨_, rfl, w4, ?_⟩)
        have e1 := seq_hu1 r hh c
        rw [← e1]
        have s1 := (seq_hu (f := f) r hh (i + 1)).1
        rw [tm s1.1]
        refine ⟨fun c1 => H g4 0 w4 (fg.trans f4) (Or.inr ⟨rfl, fun q => (q i (by omega)).2.1 c1⟩), fun c1 => ?_⟩
        refine k_lastIn hs w4 (by omega) ⟨_, rfl, w4, ?_⟩
        have ix : am_w (am_w (40 * t) + (i : Int)) = 40 * t + i := by rw [am_w_id (x := 40 * t) (by omega) (by omega), am_w_id (by omega) (by omega)]
        have ni : g4.2.2.2 132 (40 * t + (i : Int)).toNat = num i := by
          have := t3 i (by omega)
          unfold numM at this
          rw [f4.c 132 (by decide) (by simp), fg.c 132 (by decide) (by simp), show (40 * t + (i : Int)).toNat = 40 * t.toNat + i by omega]
          exact this
        rw [ix, ni]
        refine ⟨by omega, fun c2 y hy => ?_, fun c2 => H g4 0 w4 (fg.trans f4) (Or.inr ⟨rfl, fun q => c2 (q i (by omega)).2.2⟩)⟩
        rw [am_w_id (by omega) (by omega)] at hy
        obtain rfl : y = ((i + 1 : Nat) : Int) := by omega
        refine ih (i + 1) g4 (by omega) w4 (fg.trans f4) (fun j hj => ?_)
        by_cases q : j = i
        · rw [q]; exact ⟨c, c1, c2⟩
        · exact ok j (by omega)
      · rw [i0, Decidable.not_not] at c
        exact H g 0 wg fg (Or.inr ⟨rfl, fun q => (q i (by omega)).1 c⟩)
  refine w_M_isSaid_0 hs hw ?_
  refine k_standNowA hs hw ha r ⟨_, rfl, hw, ?_⟩
  have := lp n 0 h (by omega) hw fr.rfl (fun j hj => by omega)
  simp only [seqA] at this
  rw [huA_st] at this
  exact this
theorem k_hushesOf (hs : am_sc scr) (hw : wf h) (ha : h.2.2.2 110 = a) (r : rok a f B) (ht : 0 ≤ t ∧ t ≤ 3) (tr : trM h t n num) (H : ∀ g z, wf g → fr [114, 115] [] h g → isBits z 10 (fun k => sdA a f num n (k : Int)) → Q (some (.inl (z))) g) : am_R (am_prog scr) (d + 6) f_M_hushesOf 0 [some (.inr (.inr ((109 : Nat) : Int))), some (.inl (t)), none, none] [] h Q := by
  have lp : ∀ (m k : Nat) (z : Int) (g : am_H), k + m = 10 → wf g → fr [114, 115] [] h g → isBits z 10 (fun i => i < k ∧ sdA a f num n (i : Int)) → am_R (am_prog scr) (d + 6) f_M_hushesOf 4 [some (.inr (.inr ((109 : Nat) : Int))), some (.inl (t)), some (.inl (z)), some (.inl ((k : Int)))] [] g Q := by
    intro m
    induction m with
    | zero =>
      intro k z g hk wg fg hz
      exact w_M_hushesOf_4 hs wg ⟨fun _ => H g z wg fg (hz.same (fun s hs2 => ⟨fun q => ⟨by omega, q⟩, fun q => q.2⟩)), fun c => by omega⟩
    | succ m ih =>
      intro k z g hk wg fg hz
      have z2 := hz.2.1
      have z3 : ((2 ^ 10 : Nat) : Int) = 1024 := by decide
      have ag : g.2.2.2 110 = a := (fg.c 110 (by decide) (by simp)).trans ha
      have tg : trM g t n num := ⟨tr.1, by rw [fg.c 131 (by decide) (by simp)]; exact tr.2.1, fun i hi => by unfold numM; rw [fg.c 132 (by decide) (by simp)]; exact tr.2.2 i hi⟩
      refine w_M_hushesOf_4 hs wg ⟨fun c => by omega, fun _ => ?_⟩
      refine k_isSaid hs wg ag r (by omega) ht tg (fun g2 y w2 f2 hy => ⟨_, rfl, w2, fun c y3 h3 y4 h4 => ?_, fun c y3 h3 y4 h4 => ?_⟩)
      · rw [or_0 ⟨hz.1, by omega⟩] at h3
        rw [am_w_id (by omega) (by omega)] at h4
        obtain rfl : y4 = ((k + 1 : Nat) : Int) := by omega
        subst h3
        refine ih (k + 1) y3 g2 (by omega) w2 (fg.trans f2) (hz.same (fun s hs2 => ⟨fun q => ⟨?_, q.2⟩, fun q => ⟨by omega, q.2⟩⟩))
        have : s ≠ k := fun e => by
          rcases hy with q2 | q2
          · omega
          · rw [e] at q; exact q2.2 q.2
        omega
      · rw [am_w_id (by omega) (by omega)] at h4
        obtain rfl : y4 = ((k + 1 : Nat) : Int) := by omega
        subst h3
        have sk : sdA a f num n (k : Int) := by
          rcases hy with q2 | q2
          · exact q2.2
          · omega
        refine ih (k + 1) _ g2 (by omega) w2 (fg.trans f2) (hz.or (by omega) (by omega) (fun s hs2 => ⟨fun q => ?_, fun q => ?_⟩))
        · by_cases e : s = k
          · exact Or.inr (by omega)
          · exact Or.inl ⟨by omega, q.2⟩
        · rcases q with q | q
          · exact ⟨by omega, q.2⟩
          · exact ⟨by omega, by rw [q]; exact sk⟩
  exact w_M_hushesOf_0 hs hw (lp 10 0 0 h rfl hw fr.rfl (isBits.zero (fun s _ => fun q => by omega)))
theorem k_isIn {z : Int} {k : Nat} (hs : am_sc scr) (hw : wf h) (hz : 0 ≤ z ∧ z < 2147483648) (hk : k < 31) (H : Q (some (.inl (if z.toNat.testBit k = true then 1 else 0))) h) : am_R (am_prog scr) d f_M_isIn 0 [some (.inr (.inl (z))), none, some (.inl ((k : Int)))] [] h Q := by
  refine w_M_isIn_0 hs hw ?_
  rw [bit64 hz (by omega), Int.toNat_natCast]
  by_cases q : z.toNat.testBit k = true
  · rw [if_pos q] at H ⊢
    exact ⟨fun c => absurd rfl c, fun _ => H⟩
  · rw [if_neg q] at H ⊢
    exact ⟨fun _ => H, fun c => by omega⟩
theorem k_mostAlike {dd z : Int} (hs : am_sc scr) (hw : wf h) (ha : h.2.2.2 110 = a) (r : rok a f B) (hd : 0 ≤ dd ∧ dd ≤ a 4) (hz : 0 ≤ z ∧ z < 1024) (H : ∀ g, wf g → fr [114, 115, 129] [] h g → Q (some (.inl (mxA a f z dd 10))) g) : am_R (am_prog scr) (d + 5) f_M_mostAlike 0 [some (.inr (.inr ((109 : Nat) : Int))), some (.inl (dd)), some (.inl (z)), none, none, none, none] [] h Q := by
  have h4 := r.1.1
  -- which is the most
  have most : ∀ g, wf g → fr [114, 115, 129] [] h g → (∀ i, i < 10 → g.2.2.2 129 i = if z.toNat.testBit i = true then gvA a f dd i else -1) → am_R (am_prog scr) (d + 5) f_M_mostAlike 101 [some (.inr (.inr ((109 : Nat) : Int))), some (.inl (dd)), some (.inl (z)), some (.inl (0)), some (.inl (0)), none, none] [] g Q := by
    intro g wg fg sd
    have HQ := H g wg fg
    have lp : ∀ (m k : Nat), k + m = 10 → am_R (am_prog scr) (d + 5) f_M_mostAlike 101 [some (.inr (.inr ((109 : Nat) : Int))), some (.inl (dd)), some (.inl (z)), some (.inl (mxA a f z dd k)), some (.inl ((k : Int))), none, none] [] g Q := by
      intro m
      induction m with
      | zero =>
        intro k hk
        rw [show k = 10 by omega]
        exact w_M_mostAlike_101 hs wg ⟨fun _ => HQ, fun c => by omega⟩
      | succ m ih =>
        intro k hk
        refine w_M_mostAlike_101 hs wg ⟨fun c => by omega, fun _ => ?_⟩
        have sk := sd k (by omega)
        have inner : ∀ (p i : Nat), i + p = 10 → am_R (am_prog scr) (d + 5) f_M_mostAlike 114 [some (.inr (.inr ((109 : Nat) : Int))), some (.inl (dd)), some (.inl (z)), some (.inl (mxA a f z dd k)), some (.inl ((k : Int))), some (.inl (if z.toNat.testBit k = true then cnA a f z dd k i else 0)), some (.inl ((i : Int)))] [] g Q := by
          intro p
          induction p with
          | zero =>
            intro i hi
            rw [show i = 10 by omega]
            have nxt := ih (k + 1) (by omega)
            simp only [mxA] at nxt
            refine w_M_mostAlike_114 hs wg ⟨fun _ => ⟨fun c y hy => ?_, fun c y hy => ?_⟩, fun c => by omega⟩
            · rw [am_w_id (by omega) (by omega)] at hy
              obtain rfl : y = ((k + 1 : Nat) : Int) := by omega
              rw [if_pos c] at nxt
              exact nxt
            · rw [am_w_id (by omega) (by omega)] at hy
              obtain rfl : y = ((k + 1 : Nat) : Int) := by omega
              rw [if_neg c] at nxt
              exact nxt
          | succ p ih2 =>
            intro i hi
            have nxt := ih2 (i + 1) (by omega)
            have si := sd i (by omega)
            have cb := cnA_b (a := a) (f := f) (z := z) (dd := dd) (k := k) i
            have gb := gvA_b (dd := dd) (hu := k) r
            have gi := gvA_b (dd := dd) (hu := i) r
            refine w_M_mostAlike_114 hs wg ⟨fun c => by omega, fun _ => ⟨by omega, ?_⟩⟩
            rw [Int.toNat_natCast, Int.toNat_natCast, sk, si]
            by_cases tk : z.toNat.testBit k = true
            · rw [if_pos tk] at nxt ⊢
              rw [if_pos tk]
              refine ⟨fun c => by omega, fun _ => ⟨by omega, by omega, fun c => ?_, fun c => ?_⟩⟩
              · intro y9 h9 y10 h10
                rw [am_w_id (by omega) (by omega)] at h9 h10
                obtain rfl : y10 = ((i + 1 : Nat) : Int) := by omega
                obtain rfl : y9 = cnA a f z dd k i := by omega
                have e : cnA a f z dd k (i + 1) = cnA a f z dd k i := by
                  unfold cnA
                  rw [sumZ_succ, if_neg, Int.add_zero]
                  rintro ⟨q1, q2⟩
                  rw [if_pos q1] at c
                  exact c q2
                rw [e] at nxt
                exact nxt
              · intro y9 h9 y10 h10
                rw [am_w_id (by omega) (by omega)] at h9 h10
                obtain rfl : y10 = ((i + 1 : Nat) : Int) := by omega
                have e : cnA a f z dd k (i + 1) = cnA a f z dd k i + 1 := by
                  unfold cnA
                  rw [sumZ_succ, if_pos]
                  by_cases q1 : z.toNat.testBit i = true
                  · rw [if_pos q1] at c; exact ⟨q1, c⟩
                  · rw [if_neg q1] at c; omega
                rw [e] at nxt
                rw [h9]
                exact nxt
            · rw [if_neg tk] at nxt ⊢
              rw [if_neg tk]
              refine ⟨fun _ y9 h9 y10 h10 => ?_, fun c => absurd rfl c⟩
              rw [am_w_id (by omega) (by omega)] at h9 h10
              obtain rfl : y10 = ((i + 1 : Nat) : Int) := by omega
              obtain rfl : y9 = 0 := by omega
              exact nxt
        have i0' := inner 10 0 rfl
        have e : (if z.toNat.testBit k = true then cnA a f z dd k 0 else 0) = 0 := by
          unfold cnA; simp [sumZ]
        rw [e] at i0'
        exact i0'
    exact lp 10 0 rfl
  have lp : ∀ (m k : Nat) (g : am_H), k + m = 10 → wf g → fr [114, 115, 129] [] h g → (∀ i, i < k → g.2.2.2 129 i = if z.toNat.testBit i = true then gvA a f dd i else -1) → am_R (am_prog scr) (d + 5) f_M_mostAlike 5 [some (.inr (.inr ((109 : Nat) : Int))), some (.inl (dd)), some (.inl (z)), some (.inl (0)), some (.inl ((k : Int))), none, none] [] g Q := by
    intro m
    induction m with
    | zero =>
      intro k g hk wg fg sd
      exact w_M_mostAlike_5 hs wg ⟨fun _ => most g wg fg (fun i hi => sd i (by omega)), fun c => by omega⟩
    | succ m ih =>
      intro k g hk wg fg sd
      have ag : g.2.2.2 110 = a := (fg.c 110 (by decide) (by simp)).trans ha
      have putk : ∀ (g1 : am_H) (v : Int), wf g1 → fr [114, 115] [] g g1 → v = (if z.toNat.testBit k = true then gvA a f dd k else -1) → ∀ g2, g2 = am_put g1 129 k v → ∀ y, y = am_w ((k : Int) + 1) → am_R (am_prog scr) (d + 5) f_M_mostAlike 5 [some (.inr (.inr ((109 : Nat) : Int))), some (.inl (dd)), some (.inl (z)), some (.inl (0)), some (.inl (y)), none, none] [] g2 Q := by
        intro g1 v w1 f1 hv g2 e2 y hy
        rw [am_w_id (by omega) (by omega)] at hy
        obtain rfl : y = ((k + 1 : Nat) : Int) := by omega
        refine ih (k + 1) g2 (by omega) (by rw [e2]; exact w1.pa (by decide +kernel)) (by rw [e2]; exact (fg.trans (f1.mono (by decide) (by simp))).put (Or.inl (by decide))) (fun i hi => ?_)
        rw [e2]
        simp only [put_at, true_and]
        by_cases q : i = k
        · rw [if_pos q, q]; exact hv
        · rw [if_neg q, f1.c 129 (by decide) (by simp)]; exact sd i (by omega)
      refine w_M_mostAlike_5 hs wg ⟨fun c => by omega, fun _ => ?_⟩
      rw [Int.toNat_natCast]
      refine k_standNowA hs wg ag r ⟨_, rfl, wg, ?_⟩
      refine k_whyBeatA hs wg ag r (by omega) ⟨_, rfl, wg, fun c => ?_, fun c => ?_⟩
      · unfold whyBA at c
        rw [if_pos hd] at c
        have ov : ovA a := by
          apply Decidable.byContradiction; intro q; rw [if_neg q] at c; exact c rfl
        refine k_isIn hs wg (by omega) (by omega) ⟨_, rfl, wg, fun c1 => ⟨fun c2 => absurd (by decide) c2, fun _ => ⟨by omega, putk g 99 wg fr.rfl ?_⟩⟩, fun c1 => ⟨by omega, putk g (-1) wg fr.rfl ?_⟩⟩
        · rw [i0, Decidable.not_not] at c1
          rw [if_pos c1]; unfold gvA; rw [if_pos ov]
        · rw [i0] at c1
          rw [if_neg c1]
      · unfold whyBA at c
        rw [if_pos hd] at c
        have ov : ¬ ovA a := by
          intro q; rw [if_pos q] at c; omega
        have nov : ¬ overS a (stA a) := fun q => ov (r.over.mp q)
        have so := r.ok
        refine k_standNowA hs wg ag r ⟨_, rfl, wg, ?_⟩
        rw [am_w_id (x := dd - 1) (by omega) (by omega)]
        refine k_beatTo hs wg ag r.1 so.1 (by have := so.2.1; have : ¬ actI (stA a) = a 3 := fun q => nov (Or.inl q); omega) (by omega) (fun g4 w4 f4 => ⟨_, rfl, w4, ?_⟩)
        have s1 := (beatS_ok r.1 so (hu := (k : Int)) (wk := dd - 1) nov).1
        have l1 := lastI_b s1.1
        have l2 := soundI_b s1.1
        refine k_isIn hs w4 (by omega) (by omega) ⟨_, rfl, w4, fun c1 => ?_, fun c1 => ⟨by omega, putk g4 (-1) w4 f4 ?_⟩⟩
        · rw [i0, Decidable.not_not] at c1
          rw [tm s1.1]
          refine ⟨fun c2 => ?_, fun c2 => ⟨by omega, putk g4 99 w4 f4 ?_⟩⟩
          · refine k_lastIn hs w4 (by omega) ⟨_, rfl, w4, ?_⟩
            refine k_soundIn hs w4 (by omega) ⟨_, rfl, w4, by omega, ?_⟩
            rw [am_w_id (x := 10 * lastI _) (by omega) (by omega), am_w_id (x := 10 * lastI _ + soundI _) (by omega) (by omega)]
            refine putk g4 _ w4 f4 ?_
            rw [if_pos c1]; unfold gvA; rw [if_neg ov, if_neg c2]
          · rw [if_pos c1]; unfold gvA; rw [if_neg ov, if_pos c2]
        · rw [i0] at c1
          rw [if_neg c1]
  exact w_M_mostAlike_0 hs hw (lp 10 0 h rfl hw fr.rfl (fun i hi => by omega))
theorem k_Mhushes (hs : am_sc scr) (hw : wf h) (ha : h.2.2.2 110 = a) (r : rok a f B) (ht : (0 ≤ t ∧ t ≤ 3) → h.2.2.2 130 t.toNat ≠ -1 → trM h t n num) (H : ∀ g z, wf g → fr [114, 115, 129] [(109, 0)] h g → ((0 ≤ t ∧ t ≤ 3) → (h.2.2.2 130 t.toNat = -1 → z = -6) ∧ (¬ h.2.2.2 130 t.toNat = -1 → hsA a f num n z)) → (¬ (0 ≤ t ∧ t ≤ 3) → z = -2) → Q (some (.inl (z))) g) : am_R (am_prog scr) (d + 7) f_M_hushes 0 [some (.inr (.inr ((109 : Nat) : Int))), some (.inl (t)), none] [] h Q := by
  refine w_M_hushes_0 hs hw (fun g1 q1 => ?_)
  have w1 : wf g1 := by rw [q1]; exact (put0 hw).1
  have f0 : fr [] [(109, 0)] h g1 := by rw [q1]; exact (put0 hw).2
  have a1 : g1.2.2.2 110 = a := (f0.c 110 (by simp) (by decide)).trans ha
  have f1 : fr [114, 115, 129] [(109, 0)] h g1 := f0.mono (by simp) (by decide)
  have s1 : g1.2.2.2 130 = h.2.2.2 130 := f0.c 130 (by simp) (by decide)
  have t1 : (0 ≤ t ∧ t ≤ 3) → g1.2.2.2 130 t.toNat ≠ -1 → trM g1 t n num := by
    intro c1 c2
    obtain ⟨z1, z2, z3⟩ := ht c1 (by rw [← s1]; exact c2)
    refine ⟨z1, by rw [f0.c 131 (by simp) (by decide)]; exact z2, fun i hi => ?_⟩
    unfold numM
    rw [f0.c 132 (by simp) (by decide)]; exact z3 i hi
  refine k_noSaid hs w1 a1 r t1 ⟨_, rfl, w1, fun c => ?_, fun c => ?_⟩
  · rw [s1] at c
    have c3 : 0 ≤ t ∧ t ≤ 3 := by
      apply Decidable.byContradiction; intro q; rw [if_neg q] at c; omega
    rw [if_pos c3] at c
    have c4 : h.2.2.2 130 t.toNat ≠ -1 := by
      intro q; rw [if_pos q] at c; omega
    rw [if_neg c4] at c
    refine k_hushesOf hs w1 a1 r c3 (t1 c3 (by rw [s1]; exact c4)) (fun g z wg fg hz => ⟨_, rfl, wg, ?_⟩)
    exact H g z wg (f1.trans (fg.mono (by decide) (by simp))) (fun _ => ⟨fun q => absurd q c4, fun _ => ⟨fun q => absurd c q, fun _ => hz⟩⟩) (fun q => absurd c3 q)
  · rw [s1] at c ⊢
    refine H g1 _ w1 f1 (fun c3 => ?_) (fun c3 => by rw [if_neg c3])
    rw [if_pos c3] at c ⊢
    refine ⟨fun c4 => by rw [if_pos c4], fun c4 => ?_⟩
    rw [if_neg c4] at c ⊢
    exact ⟨fun _ => rfl, fun q => absurd q c⟩
theorem k_Mattempt (hs : am_sc scr) (hw : wf h) (ha : h.2.2.2 110 = a) (r : rok a f B) (ht : (0 ≤ t ∧ t ≤ 3) → h.2.2.2 130 t.toNat ≠ -1 → trM h t n num) (H : ∀ g z, wf g → fr [114, 115, 129] [(109, 0)] h g → ((0 ≤ t ∧ t ≤ 3) → (h.2.2.2 130 t.toNat = -1 → z = -6) ∧ (¬ h.2.2.2 130 t.toNat = -1 → atP a f num n z)) → (¬ (0 ≤ t ∧ t ≤ 3) → z = -2) → Q (some (.inl (z))) g) : am_R (am_prog scr) (d + 7) f_M_attempt 0 [some (.inr (.inr ((109 : Nat) : Int))), some (.inl (t)), none, none, none, none, none, none] [] h Q := by
  have h4 := r.1.1
  refine w_M_attempt_0 hs hw (fun g1 q1 => ?_)
  have w1 : wf g1 := by rw [q1]; exact (put0 hw).1
  have f0 : fr [] [(109, 0)] h g1 := by rw [q1]; exact (put0 hw).2
  have a1 : g1.2.2.2 110 = a := (f0.c 110 (by simp) (by decide)).trans ha
  have f1 : fr [114, 115, 129] [(109, 0)] h g1 := f0.mono (by simp) (by decide)
  have s1 : g1.2.2.2 130 = h.2.2.2 130 := f0.c 130 (by simp) (by decide)
  have t1 : (0 ≤ t ∧ t ≤ 3) → g1.2.2.2 130 t.toNat ≠ -1 → trM g1 t n num := by
    intro c1 c2
    obtain ⟨z1, z2, z3⟩ := ht c1 (by rw [← s1]; exact c2)
    refine ⟨z1, by rw [f0.c 131 (by simp) (by decide)]; exact z2, fun i hi => ?_⟩
    unfold numM
    rw [f0.c 132 (by simp) (by decide)]; exact z3 i hi
  refine k_noSaid hs w1 a1 r t1 ⟨_, rfl, w1, fun c => ?_, fun c => ?_⟩
  · rw [s1] at c ⊢
    have c3 : 0 ≤ t ∧ t ≤ 3 := by
      apply Decidable.byContradiction; intro q; rw [if_neg q] at c; omega
    rw [if_pos c3] at c ⊢
    have c4 : h.2.2.2 130 t.toNat ≠ -1 := by
      intro q; rw [if_pos q] at c; omega
    rw [if_neg c4] at c ⊢
    rw [c]
    refine k_hushesOf hs w1 a1 r c3 (t1 c3 (by rw [s1]; exact c4)) (fun g z wg fg hz => ⟨_, rfl, wg, ?_⟩)
    have z2 := hz.2.1
    have z3 : ((2 ^ 10 : Nat) : Int) = 1024 := by decide
    have HH : ∀ g w, wf g → fr [114, 115, 129] [(109, 0)] h g → (w = if z = 0 then -1 else (atA a f z (a 4 + 1).toNat).1) → Q (some (.inl (w))) g := by
      intro g w wg fg hw2
      exact H g w wg fg (fun _ => ⟨fun q => absurd q c4, fun _ => ⟨fun q => absurd c q, fun _ => ⟨z, hz, hw2⟩⟩⟩) (fun q => absurd c3 q)
    have fg2 : fr [114, 115, 129] [(109, 0)] h g := f1.trans (fg.mono (by decide) (by simp))
    by_cases e : z = 0
    · refine w_M_attempt_34 hs wg ⟨fun _ => HH g _ wg fg2 (by rw [if_pos e]), fun _ => ⟨fun _ => HH g _ wg fg2 (by rw [if_pos e]), fun q => absurd e q⟩⟩
    · have lp : ∀ (m k : Nat) (g : am_H), (k : Int) + m = a 4 + 1 → wf g → fr [114, 115, 129] [(109, 0)] h g → am_R (am_prog scr) (d + 7) f_M_attempt 34 [some (.inr (.inr ((109 : Nat) : Int))), some (.inl (t)), some (.inl (0)), some (.inl (z)), some (.inl ((atA a f z k).1)), some (.inl ((atA a f z k).2)), some (.inl ((k : Int))), none] [] g Q := by
        intro m
        induction m with
        | zero =>
          intro k g hk wg fg
          have ag : g.2.2.2 110 = a := (fg.c 110 (by decide) (by decide)).trans ha
          refine w_M_attempt_34 hs wg ?_
          rw [ag]
          exact ⟨fun _ => HH g _ wg fg (by rw [if_neg e, show (a 4 + 1).toNat = k by omega]), fun c => by omega⟩
        | succ m ih =>
          intro k g hk wg fg
          have ag : g.2.2.2 110 = a := (fg.c 110 (by decide) (by decide)).trans ha
          refine w_M_attempt_34 hs wg ?_
          rw [ag]
          refine ⟨fun c => by omega, fun _ => ⟨fun c => absurd c e, fun _ => ?_⟩⟩
          refine k_mostAlike hs wg ag r (by omega) (by have := hz.1; omega) (fun g2 w2 f2 => ⟨_, rfl, w2, fun c5 y hy => ?_, fun c5 y hy => ?_⟩)
          · rw [am_w_id (by omega) (by omega)] at hy
            obtain rfl : y = ((k + 1 : Nat) : Int) := by omega
            have nxt := ih (k + 1) g2 (by omega) w2 (fg.trans (f2.mono (by decide) (by simp)))
            simp only [atA] at nxt
            rw [if_pos c5] at nxt
            exact nxt
          · rw [am_w_id (by omega) (by omega)] at hy
            obtain rfl : y = ((k + 1 : Nat) : Int) := by omega
            have nxt := ih (k + 1) g2 (by omega) w2 (fg.trans (f2.mono (by decide) (by simp)))
            simp only [atA] at nxt
            rw [if_neg c5] at nxt
            exact nxt
      exact lp (a 4 + 1).toNat 0 g (by omega) wg fg2
  · rw [s1] at c ⊢
    refine H g1 _ w1 f1 (fun c3 => ?_) (fun c3 => by rw [if_neg c3])
    rw [if_pos c3] at c ⊢
    refine ⟨fun c4 => by rw [if_pos c4], fun c4 => ?_⟩
    rw [if_neg c4] at c ⊢
    exact ⟨fun _ => rfl, fun q => absurd q c⟩
end SM
