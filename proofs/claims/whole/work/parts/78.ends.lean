/-! where a play left alone ends; gaps filled -/
def endP (a : Nat → Int) (f : Nat → (Nat → Int) → Int) (n : Nat) : Prop := actI (seqA a f n) = a 3 ∧ ∀ k, k < n → ¬ ovT a (seqA a f k)
def eiP (a : Nat → Int) (f : Nat → (Nat → Int) → Int) (L z : Int) : Prop := (∃ n : Nat, z = (n : Int) ∧ z ≤ L ∧ endP a f n) ∨ (z = -1 ∧ ∀ n : Nat, endP a f n → L < (n : Int))
def snI (h : am_H) (C : Int) : Prop := (0 ≤ h.2.2.2 9 7 ∧ h.2.2.2 9 7 ≤ C) ∧ ∀ k, k < 180 → h.2.2.2 16 k ≤ h.2.2.2 9 7
theorem snI.fr {h g : am_H} {C D : Int} {L : List Nat} {F : List (Nat × Nat)} (x : snI h C) (q : fr L F h g) (h1 : ∀ x ∈ L, x ≠ 9 ∧ x ≠ 16) (h2 : ∀ x ∈ F, x.1 ≠ 9 ∧ x.1 ≠ 16) (hCD : C ≤ D) : snI g D := by
  have e1 := q.c 9 (fun y => (h1 _ y).1 rfl) (fun y hy => (h2 _ hy).1)
  have e2 := q.c 16 (fun y => (h1 _ y).2 rfl) (fun y hy => (h2 _ hy).2)
  unfold snI
  rw [e1, e2]
  exact ⟨by have := x.1; omega, x.2⟩
section EN
variable {a : Nat → Int} {f : Nat → (Nat → Int) → Int} {B : Int}
theorem endP.uniq {n m : Nat} (x : endP a f n) (y : endP a f m) : n = m := by
  rcases Nat.lt_trichotomy n m with q | q | q
  · exact absurd (Or.inl x.1) (y.2 n q)
  · exact q
  · exact absurd (Or.inl y.1) (x.2 m q)
theorem endP.le (r : rok a f B) {n : Nat} (x : endP a f n) : n ≤ 180 := by
  refine pigeon 180 n (fun i => (nodeS (seqA a f i)).toNat) (fun i hi => ?_) (fun i j hij hj => ?_)
  · have so := seq_ok r i
    have := nodeS_e so.1 (fun q => x.2 i hi (Or.inr q))
    show (nodeS (seqA a f i)).toNat < 180
    omega
  · show (nodeS (seqA a f i)).toNat ≠ (nodeS (seqA a f j)).toNat
    intro e
    have n1 := nodeS_e (seq_ok r i).1 (fun q => x.2 i (by omega) (Or.inr q))
    have n2 := nodeS_e (seq_ok r j).1 (fun q => x.2 j hj (Or.inr q))
    have e2 : seqA a f j = seqA a f i := by
      rw [← n1.2.1, ← n2.2.1]
      congr 1
      omega
    exact seq_never hij e2 (fun k hk => x.2 k (by omega)) n (Or.inl x.1)
theorem LN.end {n : Nat} {t : Int} (x : LN a f n t) : (q_goes a f n t 0 = 0 → t = -1 ∧ endP a f n) ∧ (q_goes a f n t 0 ≠ 0 → ∀ m, ¬ endP a f m) := by
  unfold q_goes
  rw [if_pos rfl]
  rcases x with ⟨x1, x2, x3⟩ | ⟨x1, x2, x3, x4⟩
  · rw [if_pos x1]
    by_cases q : actI (seqA a f n) = a 3
    · rw [if_pos q]; exact ⟨fun _ => ⟨x1, q, x3⟩, fun c => absurd rfl c⟩
    · rw [if_neg q]
      refine ⟨fun c => by omega, fun _ m y => ?_⟩
      rcases Nat.lt_trichotomy n m with z | z | z
      · exact y.2 n z x2
      · rw [← z] at y; exact q y.1
      · exact x3 m z (Or.inl y.1)
  · rw [if_neg (by omega)]
    exact ⟨fun c => by omega, fun _ m y => seq_never (by omega) x2 x3 m (Or.inl y.1)⟩
end EN
section EC
variable {scr : Nat × (Nat → Int)} {d : Nat} {h : am_H} {Q : Option am_V → am_H → Prop} {W : Wd} {ser p : Nat} {a : Nat → Int} {B C : Int}
theorem k_endsIn {L : Int} (hs : am_sc scr) (hw : wf h) (hp : p ∈ PL) (wo : wc h W) (x : plW h W p ser a) (r : rok a (W.2.2.1 ser) B) (hB : B < 900000) (hL : -1 ≤ L ∧ L ≤ 180) (sn : snI h C) (hC : C < 900000) (H : ∀ g z, wf g → fr [10, 11, 12, 13, 14, 15, 16, p, p + 1, p + 2] [(9, 7)] h g → wc g W → snI g (C + 1) → eiP a (W.2.2.1 ser) L z → Q (some (.inl (z))) g) : am_R (am_prog scr) (d + 4) f_Stage_endsIn 0 [some (.inr (.inr (((9) : Nat) : Int))), some (.inr (.inr (((p) : Nat) : Int))), some (.inl (L)), none, none] [] h Q := by
  obtain ⟨l1, l2, l3, l4, l5, l6, l7, l8⟩ := pl_lt hp
  have pb : 24 ≤ p := by
    have : ∀ q ∈ PL, 24 ≤ q := by decide
    exact this p hp
  refine w_Stage_endsIn_0 hp hs hw (fun h1 e1 => ?_)
  rw [am_w_id (by have := sn.1; omega) (by have := sn.1; omega)] at e1
  have w1 : wf h1 := by rw [e1]; exact hw.put np_9_7
  have f1 : fr [10, 11, 12, 13, 14, 15, 16, p, p + 1, p + 2] [(9, 7)] h h1 := by rw [e1]; exact fr.rfl.put (Or.inr (by simp))
  have fq : fr [] [(9, 7)] h h1 := by rw [e1]; exact fr.rfl.put (Or.inr (by simp))
  have e97 : h1.2.2.2 9 7 = h.2.2.2 9 7 + 1 := by rw [e1]; exact put_eq
  have s0 := sn.1
  have lp : ∀ (m k : Nat) (g : am_H) (b : Nat → Int), (k : Int) + m = L + 1 → wf g → fr [10, 11, 12, 13, 14, 15, 16, p, p + 1, p + 2] [(9, 7)] h g → wc g W → g.2.2.2 9 7 = h.2.2.2 9 7 + 1 → (∀ q : Nat, q < 180 → g.2.2.2 16 q ≤ h.2.2.2 9 7 ∨ (g.2.2.2 16 q = h.2.2.2 9 7 + 1 ∧ ∃ i, i < k ∧ nodeS (seqA a (W.2.2.1 ser) i) = (q : Int))) → plW g W p ser b → rok b (W.2.2.1 ser) (B + k) → simA a b → stA b = seqA a (W.2.2.1 ser) k → (∀ j, j < k → ¬ ovT a (seqA a (W.2.2.1 ser) j)) → am_R (am_prog scr) (d + 4) f_Stage_endsIn 12 [some (.inr (.inr (((9) : Nat) : Int))), some (.inr (.inr (((p) : Nat) : Int))), some (.inl (L)), some (.inl ((k : Int))), none] [] g Q := by
    intro m
    induction m with
    | zero =>
      intro k g b hk wg fg wcg e7 e16 xb rb sm es no
      have sg : snI g (C + 1) := ⟨by omega, fun q hq => by rw [e7]; rcases e16 q hq with z | z <;> omega⟩
      refine w_Stage_endsIn_12 hp hs wg ⟨fun _ => H g (-1) wg fg wcg sg (Or.inr ⟨rfl, fun n y => ?_⟩), fun c => by omega⟩
      have : ¬ n < k := fun q => no n q (Or.inl y.1)
      omega
    | succ m ih =>
      intro k g b hk wg fg wcg e7 e16 xb rb sm es no
      have sg : snI g (C + 1) := ⟨by omega, fun q hq => by rw [e7]; rcases e16 q hq with z | z <;> omega⟩
      have so := seq_ok r k
      have st := rb.st
      have e8 : g.2.2.2 p 8 = b 15 := by rw [xb.2.2.1.2.2.2.2.2.2, st.2.2.2.2]
      have ne : ∀ n, endP a (W.2.2.1 ser) n → k ≤ n := fun n y => by
        have : ¬ n < k := fun q => no n q (Or.inl y.1)
        omega
      refine w_Stage_endsIn_12 hp hs wg ⟨fun c => by omega, fun _ => ?_⟩
      rw [e8]
      refine ⟨fun c => ?_, fun c => ?_⟩
      · refine k_hasEndedC hs wg hp wcg xb rb ⟨_, rfl, wg, fun c1 => ?_, fun c1 => ?_⟩
        · have n3 : ¬ b 14 = b 3 := by
            intro q; rw [if_pos q] at c1; omega
          have ho : ¬ ovA b := by
            intro q
            rcases q with q | q
            · exact n3 q
            · omega
          have hov : ¬ ovT a (seqA a (W.2.2.1 ser) k) := by
            rw [← es, ov_sim sm]
            exact fun q => ho (rb.over.mp q)
          have ev : ¬ seqA a (W.2.2.1 ser) k % 2 = 1 := fun q => hov (Or.inr q)
          have nd := nodeS_e so.1 ev
          refine k_node (hid := W.2.2.2 ser) hs wg hp xb.2.2.1 st.1 (Or.inl (fun q => by have := rb.2.2.1.2.2.2.2.2 q; omega)) ⟨_, rfl, wg, ?_⟩
          rw [es]
          refine ⟨nd.1, fun c2 => ⟨nd.1, fun h7 q7 => ?_⟩, fun c2 => ?_⟩
          · rw [e7] at q7
            have w7 : wf h7 := by rw [q7]; exact wg.pa (by decide +kernel)
            have fq7 : fr [16] [] g h7 := by rw [q7]; exact fr.rfl.put (Or.inl (by simp))
            have wc7 := wcg.fr fq7 (by decide) (by simp)
            have x7 : plW h7 W p ser b := xb.fr fq7 (by simp; omega) (by simp)
            have c16 : ∀ q, h7.2.2.2 16 q = if q = (nodeS (seqA a (W.2.2.1 ser) k)).toNat then h.2.2.2 9 7 + 1 else g.2.2.2 16 q := by
              intro q; rw [q7]; simp only [put_at, true_and]
            refine k_stepW hs w7 hp wc7 x7 rb (by omega) ho (fun g8 w8 f8 wc8 x8 => ⟨_, rfl, w8, fun y hy => ?_⟩)
            rw [am_w_id (by omega) (by omega)] at hy
            obtain rfl : y = ((k + 1 : Nat) : Int) := by omega
            have bt : btA b (W.2.2.1 ser) (-1) = seqA a (W.2.2.1 ser) (k + 1) := by
              rw [btA_sim sm rb, es]
              simp only [seqA]
              rw [if_neg hov]
              rfl
            have gs := gbA_st rb ho (-1)
            rw [bt] at gs
            refine ih (k + 1) g8 _ (by omega) w8 ((fg.trans (fq7.mono (by simp) (by simp))).trans (f8.mono (by simp) (by simp))) wc8 ?_ (fun q hq => ?_) x8 ((gbA_ok rb ho (-1)).le (by omega)) (sm.trans gbA_sim) gs (fun j hj => ?_)
            · rw [f8.f 9 7 (by simp) (by simp; omega), fq7.f 9 7 (by simp) (by simp)]; exact e7
            · rw [f8.f 16 q (by simp) (by simp; omega), c16]
              by_cases z : q = (nodeS (seqA a (W.2.2.1 ser) k)).toNat
              · rw [if_pos z]; exact Or.inr ⟨rfl, k, by omega, by omega⟩
              · rw [if_neg z]
                rcases e16 q hq with y | ⟨y, i, i1, i2⟩
                · exact Or.inl y
                · exact Or.inr ⟨y, i, by omega, i2⟩
            · by_cases z : j = k
              · rw [z]; exact hov
              · exact no j (by omega)
          · refine H g (-1) wg fg wcg sg (Or.inr ⟨rfl, fun n y => ?_⟩)
            exfalso
            rcases e16 (nodeS (seqA a (W.2.2.1 ser) k)).toNat (by omega) with z | ⟨z, i, i1, i2⟩
            · omega
            · have n1 := nodeS_e (seq_ok r i).1 (fun q => no i i1 (Or.inr q))
              have e2 : seqA a (W.2.2.1 ser) k = seqA a (W.2.2.1 ser) i := by
                rw [← n1.2.1, ← nd.2.1]
                congr 1
                omega
              refine seq_never i1 e2 (fun j hj => ?_) n (Or.inl y.1)
              by_cases z2 : j = k
              · rw [z2]; exact hov
              · exact no j (by omega)
        · have n3 : b 14 = b 3 := by
            apply Decidable.byContradiction; intro q; rw [if_neg q] at c1; omega
          have ea : actI (seqA a (W.2.2.1 ser) k) = a 3 := by
            rw [← es, st.2.1, n3, sm 3 (by omega)]
          exact H g (k : Int) wg fg wcg sg (Or.inl ⟨k, rfl, by omega, ea, no⟩)
      · have od : seqA a (W.2.2.1 ser) k % 2 = 1 := by
          rw [← es, st.2.2.2.2]
          have := rb.2.2.1.2.2.2.1
          omega
        have na := so.2.2.2.2 od
        refine H g (-1) wg fg wcg sg (Or.inr ⟨rfl, fun n y => ?_⟩)
        exfalso
        have := ne n y
        by_cases z : n = k
        · rw [z] at y; have := y.1; omega
        · exact y.2 k (by omega) (Or.inr od)
  refine lp (L + 1).toNat 0 h1 a (by omega) w1 f1 (wo.fr fq (by simp) (by decide)) e97 (fun q hq => ?_) (x.fr fq (by simp) (by simp; omega)) (r.le (by omega)) simA.rfl rfl (fun j hj => by omega)
  rw [fq.f 16 q (by simp) (by simp)]
  exact Or.inl (sn.2 q hq)
def flP (a : Nat → Int) (f : Nat → (Nat → Int) → Int) (s z : Int) : Prop := (¬ (0 ≤ s ∧ s < a 4) → z = -2) ∧ ((0 ≤ s ∧ s < a 4) → isBits z 10 (fun k => ∃ n, endP (drA a s (k : Int)) f n))
theorem flP.uniq {f : Nat → (Nat → Int) → Int} {s z w : Int} (x : flP a f s z) (y : flP a f s w) : z = w := by
  by_cases q : 0 ≤ s ∧ s < a 4
  · exact (x.2 q).uniq (y.2 q)
  · rw [x.1 q, y.1 q]
theorem k_Sfills {s : Int} (hs : am_sc scr) (hw : wf h) (wo : wc h W) (x : plW h W 24 ser a) (r : rok a (W.2.2.1 ser) B) (hB : B < 900000) (sn : snI h C) (hC : C + 10 < 900000) (H : ∀ g z, wf g → fr [10, 11, 12, 13, 14, 15, 16, 27, 28, 29] [(9, 7)] h g → wc g W → snI g (C + 10) → flP a (W.2.2.1 ser) s z → Q (some (.inl (z))) g) : am_R (am_prog scr) (d + 5) f_S_fills 0 [some (.inr (.inr (((0) : Nat) : Int))), some (.inl (s)), none, none] [] h Q := by
  have p24 : 24 ∈ PL := by decide
  have p27 : 27 ∈ PL := by decide
  have h4 := r.1.1
  refine w_S_fills_0 hs hw ?_
  refine k_has hs hw p24 wo x ⟨_, rfl, hw, fun c => ?_, fun c => ?_⟩
  · rw [i0, Decidable.not_not] at c
    have lp : ∀ (m k : Nat) (z : Int) (g : am_H), k + m = 10 → wf g → fr [10, 11, 12, 13, 14, 15, 16, 27, 28, 29] [(9, 7)] h g → wc g W → snI g (C + k) → isBits z 10 (fun i => i < k ∧ ∃ n, endP (drA a s (i : Int)) (W.2.2.1 ser) n) → am_R (am_prog scr) (d + 5) f_S_fills 18 [some (.inr (.inr (((0) : Nat) : Int))), some (.inl (s)), some (.inl (z)), some (.inl ((k : Int)))] [] g Q := by
      intro m
      induction m with
      | zero =>
        intro k z g hk wg fg wcg sg hz
        refine w_S_fills_18 hs wg ⟨fun _ => H g z wg fg wcg ⟨by have := sg.1; omega, sg.2⟩ ⟨fun q => absurd c q, fun _ => hz.same (fun i hi => ⟨fun q => ⟨by omega, q⟩, fun q => q.2⟩)⟩, fun c => by omega⟩
      | succ m ih =>
        intro k z g hk wg fg wcg sg hz
        have x24 : plW g W 24 ser a := x.fr fg (by decide) (by decide)
        refine w_S_fills_18 hs wg ⟨fun c => by omega, fun _ => ?_⟩
        refine k_takeFrom hs wg p27 p24 (by decide) x24 r (fun g2 w2 f2 x2 y2 => ⟨rfl, w2, by omega, fun h3 e3 => ?_⟩)
        have hx := plW.drm (s := s) (n := (k : Int)) w2 p27 x2 (by omega)
        rw [← e3] at hx
        have fq : fr [29] [] g2 h3 := by rw [e3]; exact fr.rfl.put (Or.inl (by simp))
        have f3 : fr [10, 11, 12, 13, 14, 15, 16, 27, 28, 29] [(9, 7)] g h3 := (f2.mono (by decide) (by simp)).trans (fq.mono (by decide) (by simp))
        have wc3 : wc h3 W := (wcg.fr f2 (by decide) (by simp)).fr fq (by decide) (by simp)
        have sn3 : snI h3 (C + k) := (sg.fr f2 (by decide) (by simp) (Int.le_refl _)).fr fq (by decide) (by simp) (Int.le_refl _)
        have r3 := drA_ok r (s := s) (n := (k : Int)) c (by omega)
        refine k_endsIn (C := C + k) hs hx.1 p27 wc3 hx.2 r3 hB (by omega) sn3 (by omega) (fun g4 y w4 f4 wc4 sn4 he => ⟨_, rfl, w4, fun c2 y6 h6 => ?_, fun c2 y6 h6 y8 h8 => ?_⟩)
        · rw [am_w_id (by omega) (by omega)] at h6
          obtain rfl : y6 = ((k + 1 : Nat) : Int) := by omega
          refine ih (k + 1) z g4 (by omega) w4 ((fg.trans f3).trans (f4.mono (by decide) (by simp))) wc4 ⟨by have := sn4.1; omega, sn4.2⟩ (hz.same (fun i hi => ⟨fun q => ⟨?_, q.2⟩, fun q => ⟨by omega, q.2⟩⟩))
          have : i ≠ k := fun e => by
            rw [e] at q
            obtain ⟨n, en⟩ := q.2
            have nl := en.le r3
            rcases he with ⟨n', z1, _⟩ | ⟨_, z2⟩
            · omega
            · have := z2 n en; omega
          omega
        · rw [am_w_id (by omega) (by omega)] at h8
          obtain rfl : y8 = ((k + 1 : Nat) : Int) := by omega
          subst h6
          have ex : ∃ n, endP (drA a s (k : Int)) (W.2.2.1 ser) n := by
            rcases he with ⟨n', _, _, z1⟩ | ⟨z2, _⟩
            · exact ⟨n', z1⟩
            · exact absurd z2 c2
          refine ih (k + 1) _ g4 (by omega) w4 ((fg.trans f3).trans (f4.mono (by decide) (by simp))) wc4 ⟨by have := sn4.1; omega, sn4.2⟩ (hz.or (by omega) (by omega) (fun i hi => ⟨fun q => ?_, fun q => ?_⟩))
          · by_cases e : i = k
            · exact Or.inr (by omega)
            · exact Or.inl ⟨by omega, q.2⟩
          · rcases q with q | q
            · exact ⟨by omega, q.2⟩
            · exact ⟨by omega, by rw [q]; exact ex⟩
    exact lp 10 0 0 h rfl hw fr.rfl wo ⟨by have := sn.1; omega, sn.2⟩ (isBits.zero (fun i _ => fun q => by omega))
  · rw [i0] at c
    exact H h (-2) hw fr.rfl wo ⟨by have := sn.1; omega, sn.2⟩ ⟨fun _ => rfl, fun q => absurd q c⟩
theorem k_Mfills {f : Nat → (Nat → Int) → Int} {s : Int} (hs : am_sc scr) (hw : wf h) (ha : h.2.2.2 110 = a) (r : rok a f B) (H : ∀ g z, wf g → fr [110, 114, 115, 117, 118] [(109, 0), (109, 22), (109, 23)] h g → g.2.2.2 110 = a → flP a f s z → Q (some (.inl (z))) g) : am_R (am_prog scr) (d + 7) f_M_fills 0 [some (.inr (.inr ((109 : Nat) : Int))), some (.inl (s)), none, none, none] [] h Q := by
  have h4 := r.1.1
  refine w_M_fills_0 hs hw (fun g1 q1 => ?_)
  have w1 : wf g1 := by rw [q1]; exact (put0 hw).1
  have f0 : fr [] [(109, 0)] h g1 := by rw [q1]; exact (put0 hw).2
  have a1 : g1.2.2.2 110 = a := (f0.c 110 (by simp) (by decide)).trans ha
  have f1 : fr [110, 114, 115, 117, 118] [(109, 0), (109, 22), (109, 23)] h g1 := f0.mono (by simp) (by decide)
  refine k_isSleeper hs w1 (by rw [a1]; exact h4) (fun v hv => ⟨_, rfl, w1, fun c => ?_, fun c => ?_⟩)
  · rw [a1] at hv
    have cs : 0 ≤ s ∧ s < a 4 := by omega
    have ix : am_w (22 + s) = 22 + s := am_w_id (by omega) (by omega)
    rw [ix]
    refine ⟨by omega, fun y5 h5 => ?_⟩
    rw [a1] at h5
    have lp : ∀ (m k : Nat) (z : Int) (g : am_H), k + m = 10 → wf g → fr [110, 114, 115, 117, 118] [(109, 0), (109, 22), (109, 23)] h g → (∀ j, j ≠ (22 + s).toNat → g.2.2.2 110 j = a j) → isBits z 10 (fun i => i < k ∧ ∃ n, endP (drA a s (i : Int)) f n) → am_R (am_prog scr) (d + 7) f_M_fills 32 [some (.inr (.inr ((109 : Nat) : Int))), some (.inl (s)), some (.inl (y5)), some (.inl (z)), some (.inl ((k : Int)))] [] g Q := by
      intro m
      induction m with
      | zero =>
        intro k z g hk wg fg ag hz
        refine w_M_fills_32 hs wg ⟨fun _ => ?_, fun c => by omega⟩
        rw [ix]
        refine ⟨by omega, fun h2 e2 => ?_⟩
        refine H h2 z (by rw [e2]; exact wg.pa (by decide +kernel)) (by rw [e2]; exact fg.put (Or.inl (by decide))) ?_ ⟨fun q => absurd cs q, fun _ => hz.same (fun i hi => ⟨fun q => ⟨by omega, q⟩, fun q => q.2⟩)⟩
        funext j
        rw [e2]
        simp only [put_at, true_and]
        by_cases q : j = (22 + s).toNat
        · rw [if_pos q, h5, q]
        · rw [if_neg q]; exact ag j q
      | succ m ih =>
        intro k z g hk wg fg ag hz
        have z2 := hz.2.1
        have z3 : ((2 ^ 10 : Nat) : Int) = 1024 := by decide
        refine w_M_fills_32 hs wg ⟨fun c => by omega, fun _ => ?_⟩
        rw [ix]
        refine ⟨by omega, fun h4' e4 => ?_⟩
        have w4 : wf h4' := by rw [e4]; exact wg.pa (by decide +kernel)
        have f4 : fr [110, 114, 115, 117, 118] [(109, 0), (109, 22), (109, 23)] h h4' := by rw [e4]; exact fg.put (Or.inl (by decide))
        have a4 : h4'.2.2.2 110 = drA a s (k : Int) := by
          funext j
          rw [e4]
          simp only [put_at, true_and]
          unfold drA
          by_cases q : j = (22 + s).toNat
          · rw [if_pos q, if_pos q]
          · rw [if_neg q, if_neg q]; exact ag j q
        have r3 := drA_ok r (s := s) (n := (k : Int)) cs (by omega)
        refine k_goesHow hs w4 a4 r3 (fun g5 n t w5 f5 ln e22 hn => ⟨_, rfl, w5, fun c2 y7 h7 y8 h8 => ?_, fun c2 y7 h7 y8 h8 => ?_⟩)
        · rw [or_0 ⟨hz.1, by omega⟩] at h7
          rw [am_w_id (by omega) (by omega)] at h8
          obtain rfl : y8 = ((k + 1 : Nat) : Int) := by omega
          subst h7
          refine ih (k + 1) y7 g5 (by omega) w5 (f4.trans (f5.mono (by decide) (by decide))) (fun j hj => ?_) (hz.same (fun i hi => ⟨fun q => ⟨?_, q.2⟩, fun q => ⟨by omega, q.2⟩⟩))
          · rw [f5.c 110 (by decide) (by decide), a4]; exact if_neg hj
          · have : i ≠ k := fun e => by
              rw [e] at q
              obtain ⟨n', en⟩ := q.2
              exact ln.end.2 c2 n' en
            omega
        · rw [am_w_id (by omega) (by omega)] at h8
          obtain rfl : y8 = ((k + 1 : Nat) : Int) := by omega
          subst h7
          refine ih (k + 1) _ g5 (by omega) w5 (f4.trans (f5.mono (by decide) (by decide))) (fun j hj => ?_) (hz.or (by omega) (by omega) (fun i hi => ⟨fun q => ?_, fun q => ?_⟩))
          · rw [f5.c 110 (by decide) (by decide), a4]; exact if_neg hj
          · by_cases e : i = k
            · exact Or.inr (by omega)
            · exact Or.inl ⟨by omega, q.2⟩
          · rcases q with q | q
            · exact ⟨by omega, q.2⟩
            · exact ⟨by omega, by rw [q]; exact ⟨n, (ln.end.1 c2).2⟩⟩
    exact lp 10 0 0 g1 rfl w1 f1 (fun j _ => by rw [a1]) (isBits.zero (fun i _ => fun q => by omega))
  · rw [a1] at hv
    exact H g1 (-2) w1 f1 a1 ⟨fun _ => rfl, fun q => by omega⟩
end EC
