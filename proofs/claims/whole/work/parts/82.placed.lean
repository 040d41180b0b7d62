/-! the best order: the class -/
theorem bed_sel {a : Nat → Int} : bedS a 6 = selL (nowB a 0) (nowB a 1) (nowB a 2) (nowB a 3) (nowB a 4) (nowB a 5) := by
  have e0 : bedS a 0 = [] := rfl
  rw [bedS_succ (k := 5), bedS_succ (k := 4), bedS_succ (k := 3), bedS_succ (k := 2), bedS_succ (k := 1), bedS_succ (k := 0), e0]
  unfold selL
  simp only [List.append_assoc, List.nil_append]
section PC
variable {a b : Nat → Int} {f : Nat → (Nat → Int) → Int} {B C : Int}
theorem pr_it (r : rok a f B) : prL (bedS a 6) (a 4).toNat [] = itL 720 (bedS a 6) := by
  have := pr_it6 (nowB a 0) (nowB a 1) (nowB a 2) (nowB a 3) (nowB a 4) (nowB a 5)
  rw [← bed_sel, bedS_len r] at this
  exact this
theorem it_or (r : rok a f B) : ∀ l ∈ itL 720 (bedS a 6), orP a l := by
  rw [← pr_it r]
  exact pr_or _ [] (by simp) (by simp) (by simp)
theorem enF_ge : ∀ m n, -1 ≤ enF a f m n := by
  intro m
  induction m with
  | zero => intro n; simp [enF]
  | succ m ih =>
    intro n
    have := ih (n + 1)
    simp only [enF]
    repeat' split
    all_goals omega
theorem vi_zero {st : Int × List Nat} (h : st.1 = 0) : ∀ ls : List (List Nat), ls.foldl (viF a f) st = st := by
  intro ls
  induction ls with
  | nil => rfl
  | cons l ls ih =>
    rw [List.foldl_cons]
    have e : viF a f st l = st := by
      unfold viF
      have := enF_ge (a := plA a l) (f := f) 181 0
      rw [if_neg (by omega)]
    rw [e]; exact ih
theorem seq_congr (p : simA a b) (ra : rok a f B) (rb : rok b f C) (e : stA b = stA a) : ∀ k, seqA b f k = seqA a f k := by
  intro k
  induction k with
  | zero => exact e
  | succ k ih =>
    simp only [seqA]
    rw [ih]
    by_cases q : ovT a (seqA a f k)
    · rw [if_pos q, if_pos ((ov_sim p).mp q)]
    · rw [if_neg q, if_neg (fun z => q ((ov_sim p).mpr z))]
      unfold Tr
      rw [p 28 (by omega), beatS_congr p ra.1 (seq_ok ra k).1.1]
theorem end_congr (p : simA a b) (ra : rok a f B) (rb : rok b f C) (e : nodeS (stA b) = nodeS (stA a)) (n : Nat) : endP b f n ↔ endP a f n := by
  have sa := ra.ok
  have sb := rb.ok
  have e3 := p 3 (by omega)
  by_cases q : stA a % 2 = 1
  · have na := nodeS_o sa.1 q
    have qb : stA b % 2 = 1 := by
      apply Decidable.byContradiction; intro z; have := nodeS_e sb.1 z; omega
    have no : ∀ (c : Nat → Int) (D : Int), rok c f D → stA c % 2 = 1 → ¬ endP c f n := by
      intro c D rc qc y
      have sc := rc.ok
      cases n with
      | zero =>
        have y1 : actI (stA c) = c 3 := y.1
        have := sc.2.2.2.2 qc
        omega
      | succ n => exact y.2 0 (by omega) (Or.inr qc)
    exact ⟨fun y => absurd y (no b C rb qb), fun y => absurd y (no a B ra q)⟩
  · have na := nodeS_e sa.1 q
    have qb : ¬ stA b % 2 = 1 := fun z => by have := nodeS_o sb.1 z; omega
    have nb := nodeS_e sb.1 qb
    have es : stA b = stA a := by rw [← na.2.1, ← nb.2.1, e]
    have sq := seq_congr p ra rb es
    unfold endP
    rw [sq n, e3]
    constructor
    · rintro ⟨y1, y2⟩
      exact ⟨y1, fun k hk z => y2 k hk (by rw [sq k]; exact (ov_sim p).mp z)⟩
    · rintro ⟨y1, y2⟩
      exact ⟨y1, fun k hk z => y2 k hk (by rw [sq k] at z; exact (ov_sim p).mpr z)⟩
theorem enF_congr (p : simA a b) (ra : rok a f B) (rb : rok b f C) (e : nodeS (stA b) = nodeS (stA a)) : enF b f 181 0 = enF a f 181 0 := by
  have ec := end_congr p ra rb e
  rcases enF_0 ra with ⟨k, k1, k2⟩ | ⟨k1, k2⟩
  · rcases enF_0 rb with ⟨j, j1, j2⟩ | ⟨j1, j2⟩
    · rw [k1, j1, ((ec j).mp j2).uniq k2]
    · exact absurd ((ec k).mpr k2) (j2 k)
  · rcases enF_0 rb with ⟨j, j1, j2⟩ | ⟨j1, j2⟩
    · exact absurd ((ec j).mp j2) (k2 j)
    · rw [k1, j1]
theorem plA_st {l : List Nat} (hl : l.length ≤ 6) : stA (plA a l) = stA a ∧ ∀ j, j < 16 ∨ 22 ≤ j → plA a l j = a j := by
  have e : ∀ j, j < 16 ∨ 22 ≤ j → plA a l j = a j := fun j hj => by
    unfold plA; rw [if_neg (by omega)]
  refine ⟨?_, e⟩
  unfold stA
  rw [e 14 (by omega), e 12 (by omega), e 13 (by omega), e 15 (by omega)]
theorem plR_congr (p : simA a b) (ra : rok a f B) (rb : rok b f C) (e : nodeS (stA b) = nodeS (stA a)) : plR b f = plR a f := by
  have h4 := ra.1.1
  have e4 := p 4 (by omega)
  have nb : nowB b = nowB a := by
    funext k
    rw [Bool.eq_iff_iff, nowB_t, nowB_t, e4]
    constructor
    · rintro ⟨s, s1, s2⟩; exact ⟨s, s1, by rw [← p (16 + s) (by omega)]; exact s2⟩
    · rintro ⟨s, s1, s2⟩; exact ⟨s, s1, by rw [p (16 + s) (by omega)]; exact s2⟩
  have bb : bedS b 6 = bedS a 6 := by unfold bedS; rw [nb]
  have ob : ∀ l, orP a l → orP b l := by
    intro l x
    unfold orP at x ⊢
    rw [bb, e4]; exact x
  have fo : ∀ (ls : List (List Nat)) (st : Int × List Nat), (∀ l ∈ ls, orP a l) → ls.foldl (viF b f) st = ls.foldl (viF a f) st := by
    intro ls
    induction ls with
    | nil => intro st _; rfl
    | cons l ls ih =>
      intro st hl
      have ol := hl l (by simp)
      have ev : viF b f st l = viF a f st l := by
        have ll : l.length ≤ 6 := by rw [ol.1]; omega
        have pa := plA_st (a := a) ll
        have pb := plA_st (a := b) ll
        have pp : simA (plA a l) (plA b l) := by
          intro j hj
          unfold plA
          by_cases q : 16 ≤ j ∧ j < 16 + l.length
          · rw [if_pos q, if_pos q]
          · rw [if_neg q, if_neg q]; exact p j hj
        unfold viF
        rw [enF_congr pp (ol.rok ra) ((ob l ol).rok rb) (by rw [pa.1, pb.1]; exact e)]
      rw [List.foldl_cons, List.foldl_cons, ev]
      exact ih _ (fun l2 h2 => hl l2 (by simp [h2]))
  unfold plR
  rw [bb, e4]
  exact fo _ _ (pr_or _ [] (by simp) (by simp) (by simp))
end PC
def PCL : List Nat := [10, 11, 12, 13, 14, 15, 16, 58, 59, 60, 61, 62]
def PCF : List (Nat × Nat) := [(9, 7), (57, 4), (57, 5), (57, 6)]
/-- what was found is kept -/
def stC (g : am_H) (a : Nat → Int) (st : Int × List Nat) : Prop := g.2.2.2 57 4 = st.1 ∧ (st.1 = -1 ∨ (0 ≤ st.1 ∧ st.1 ≤ 180)) ∧ (st.1 ≠ -1 → ∀ i : Nat, (i : Int) < a 4 → g.2.2.2 62 i = (st.2.getD i 0 : Int))
def plcI (h : am_H) (W : Wd) (B : Int) : Prop := h.2.2.2 57 5 = -1 ∨ ∃ ser a, ser ≤ W.1 ∧ (∀ j, j < 8 → a j = W.2.1 ser j) ∧ rok a (W.2.2.1 ser) B ∧ h.2.2.2 57 5 = settingI ser a ∧ h.2.2.2 57 6 = nodeS (stA a) ∧ stC h a (plR a (W.2.2.1 ser))
section PD
variable {scr : Nat × (Nat → Int)} {d : Nat} {h : am_H} {Q : Option am_V → am_H → Prop} {W : Wd} {ser : Nat} {a : Nat → Int} {B C : Int}
theorem stC.fr {g : am_H} {st : Int × List Nat} {L : List Nat} {F : List (Nat × Nat)} (x : stC h a st) (q : fr L F h g) (h1 : ∀ x ∈ L, x ≠ 57 ∧ x ≠ 62) (h2 : ∀ x ∈ F, x.1 ≠ 57 ∧ x.1 ≠ 62) : stC g a st := by
  unfold stC
  rw [q.c 57 (fun y => (h1 _ y).1 rfl) (fun y hy => (h2 _ hy).1), q.c 62 (fun y => (h1 _ y).2 rfl) (fun y hy => (h2 _ hy).2)]
  exact x
theorem plcI.fr {g : am_H} {L : List Nat} {F : List (Nat × Nat)} (x : plcI h W B) (q : fr L F h g) (h1 : ∀ x ∈ L, x ≠ 57 ∧ x ≠ 62) (h2 : ∀ x ∈ F, x.1 ≠ 57 ∧ x.1 ≠ 62) (hBC : B ≤ C) : plcI g W C := by
  have e : g.2.2.2 57 = h.2.2.2 57 := q.c 57 (fun y => (h1 _ y).1 rfl) (fun y hy => (h2 _ hy).1)
  rcases x with x | ⟨s, b, x1, x2, x3, x4, x5, x6⟩
  · exact Or.inl (by rw [e]; exact x)
  · exact Or.inr ⟨s, b, x1, x2, x3.le hBC, by rw [e]; exact x4, by rw [e]; exact x5, x6.fr q h1 h2⟩
theorem k_place_54 (hs : am_sc scr) (r : rok a (W.2.2.1 ser) B) (hB : B < 900000) (hC : C + 720 < 900000) (K : ∀ g, wf g → fr PCL [(9, 7), (57, 4)] h g → wc g W → snI g (C + 720) → stC g a (plR a (W.2.2.1 ser)) → Q none g) : ∀ (m i : Nat) (g : am_H) (x2 : Int) (l : List Nat) (st : Int × List Nat) (rem : List (List Nat)), i + m = 720 → wf g → fr PCL [(9, 7), (57, 4)] h g → wc g W → plW g W 24 ser a → snI g (C + i) → stC g a st → ((x2 = 1 ∧ rem = itL m l ∧ ordC g l ∧ l.length = (a 4).toNat) ∨ (x2 = 0 ∧ rem = [])) → (∀ l ∈ rem, orP a l) → rem.foldl (viF a (W.2.2.1 ser)) st = plR a (W.2.2.1 ser) → am_R (am_prog scr) (d + 5) f_Placer_place 54 [some (.inr (.inr (((57) : Nat) : Int))), some (.inr (.inr (((24) : Nat) : Int))), some (.inl (x2)), some (.inl ((i : Int))), none] [] g Q := by
  have h4 := r.1.1
  have p24 : 24 ∈ PL := by decide
  have p58 : 58 ∈ PL := by decide
  have hb : ∀ g, wc g W → plW g W 24 ser a → am_isO g (g.2.2.2 24 0) 1 ∧ g.2.2.2 (g.2.2.2 24 0).toNat 4 = a 4 := by
    intro g wg xg
    have hsc := (xg.hs wg).1
    rw [xg.2.2.1.1, Int.toNat_natCast]
    exact ⟨⟨by omega, by rw [Int.toNat_natCast]; exact hsc.2.1⟩, hsc.2.2.2.2.2.1⟩
  intro m
  induction m with
  | zero =>
    intro i g x2 l st rem hi wg fg wcg x24 sg sc hr op fo
    have e : rem = [] := by
      rcases hr with ⟨_, q, _⟩ | ⟨_, q⟩
      · exact q
      · exact q
    rw [e] at fo
    have fo : st = plR a (W.2.2.1 ser) := fo
    rw [fo] at sc
    refine w_Placer_place_54 p24 hs wg ⟨fun _ => K g wg fg wcg ⟨by have := sg.1; omega, sg.2⟩ sc, fun c => by omega⟩
  | succ m ih =>
    intro i g x2 l st rem hi wg fg wcg x24 sg sc hr op fo
    have fin : stC g a (plR a (W.2.2.1 ser)) → Q none g := fun z => K g wg fg wcg ⟨by have := sg.1; omega, sg.2⟩ z
    refine w_Placer_place_54 p24 hs wg ⟨fun c => by omega, fun _ => ⟨fun c => fin ?_, fun c => ⟨fun c2 => fin ?_, fun c2 => ?_⟩⟩⟩
    · rcases hr with ⟨q, _⟩ | ⟨_, q⟩
      · omega
      · rw [q] at fo
        have fo : st = plR a (W.2.2.1 ser) := fo
        rw [← fo]; exact sc
    · rw [sc.1] at c2
      rw [vi_zero c2] at fo
      rw [← fo]; exact sc
    · rw [sc.1] at c2
      rcases hr with ⟨q1, q2, q3, q4⟩ | ⟨q, _⟩
      · have ol : orP a l := op l (by rw [q2]; simp [itL])
        have ll : l.length ≤ 6 := by omega
        have rl := ol.rok r
        obtain ⟨ps, pe⟩ := plA_st (a := a) ll
        refine k_takeFrom hs wg p58 p24 (by decide) x24 r (fun g1 w1 f1 x1 y1 => ⟨rfl, w1, ?_⟩)
        have wc1 : wc g1 W := wcg.fr f1 (by decide) (by simp)
        obtain ⟨b1, b2⟩ := hb g1 wc1 y1
        have k61 := w1.2.1 61 (by omega)
        have k59 := w1.2.1 59 (by omega)
        have v61 : wk 61 = (1, 6) := by decide +kernel
        have v59 : wk 59 = (1, 6) := by decide +kernel
        have v62 : wk 62 = (1, 6) := by decide +kernel
        rw [v61] at k61
        rw [v59] at k59
        rw [b2, k61, k59]
        refine ⟨b1, ⟨by omega, rfl⟩, ⟨by omega, rfl⟩, by omega, by omega, by simp; omega, by simp; omega, fun h9 e9 => ?_⟩
        have w9 : wf h9 := by rw [e9]; exact w1.cpy (by decide +kernel)
        have f9 : fr [59] [] g1 h9 := by rw [e9]; exact fr.rfl.cpy (by simp)
        have wc9 : wc h9 W := wc1.fr f9 (by decide) (by simp)
        have y9 : plW h9 W 24 ser a := y1.fr f9 (by decide) (by simp)
        have o9 : ordC h9 l := fun j hj => by
          rw [f9.f 61 j (by simp) (by simp), f1.f 61 j (by simp) (by simp)]; exact q3 j hj
        have x9 : plW h9 W 58 ser (plA a l) := by
          obtain ⟨z1, z2, z3, z4⟩ := x1
          obtain ⟨u1, u2, u3, u4, u5, u6, u7⟩ := z3
          have e58 : ∀ j, h9.2.2.2 58 j = g1.2.2.2 58 j := fun j => f9.f 58 j (by simp) (by simp)
          refine ⟨z1, fun j hj => by rw [pe j (by omega)]; exact z2 j hj, ?_, by rw [e58, pe 29 (by omega)]; exact z4⟩
          rw [ps, pe 28 (by omega)]
          refine ⟨by rw [e58]; exact u1, fun s hs6 => ⟨?_, ?_⟩, by rw [e58]; exact u3, by rw [e58, pe 4 (by omega)]; exact u4, by rw [e58]; exact u5, by rw [e58]; exact u6, by rw [e58]; exact u7⟩
          · rw [e9, show (58 + 1 : Nat) = 59 from rfl, cpy_at]
            unfold plA
            by_cases q : (s : Int) < a 4
            · rw [if_pos ⟨rfl, by omega, by omega⟩, if_pos (by omega), show 0 + (s - 0) = s by omega, show 16 + s - 16 = s by omega, f1.f 61 s (by simp) (by simp)]
              exact q3 s (by omega)
            · rw [if_neg (by omega), if_neg (by omega)]; exact (u2 s hs6).1
          · rw [f9.f (58 + 2) s (by simp) (by simp), pe (22 + s) (by omega)]; exact (u2 s hs6).2
        have s9 : snI h9 (C + i) := (sg.fr f1 (by decide) (by simp) (Int.le_refl _)).fr f9 (by decide) (by simp) (Int.le_refl _)
        have t9 : stC h9 a st := (sc.fr f1 (by decide) (by simp)).fr f9 (by decide) (by simp)
        have fr9 : fr PCL [(9, 7), (57, 4)] h h9 := (fg.trans (f1.mono (by decide) (by simp))).trans (f9.mono (by decide) (by simp))
        -- the next order
        have nxt : ∀ (g10 : am_H) (x4 : Int) (st2 : Int × List Nat), wf g10 → fr PCL [(9, 7), (57, 4)] h g10 → wc g10 W → plW g10 W 24 ser a → snI g10 (C + i + 1) → stC g10 a st2 → ordC g10 l → st2 = viF a (W.2.2.1 ser) st l → am_R (am_prog scr) (d + 5) f_Placer_place 168 [some (.inr (.inr (((57) : Nat) : Int))), some (.inr (.inr (((24) : Nat) : Int))), some (.inl (x2)), some (.inl ((i : Int))), some (.inl (x4))] [] g10 Q := by
          intro g10 x4 st2 w10 f10 wc10 x10 s10 t10 o10 e10
          obtain ⟨b1, b2⟩ := hb g10 wc10 x10
          refine w_Placer_place_168 p24 hs w10 ⟨b1, ?_⟩
          rw [b2, show a 4 = ((l.length : Nat) : Int) by omega]
          have fo2 : (match nextL l with
            | none => []
            | some l2 => itL m l2).foldl (viF a (W.2.2.1 ser)) st2 = plR a (W.2.2.1 ser) := by
            rw [q2] at fo
            simp only [itL, List.foldl_cons] at fo
            rw [e10]; exact fo
          have op2 : ∀ l3 ∈ (match nextL l with
            | none => []
            | some l2 => itL m l2), orP a l3 := fun l3 h3 => op l3 (by rw [q2]; simp only [itL]; exact List.mem_cons_of_mem _ h3)
          refine k_nextOrder (l := l) hs w10 ll rfl o10 (fun hn => ⟨_, rfl, w10, fun y4 h4' => ?_⟩) (fun g11 l2 w11 f11 hn hl2 o11 => ⟨_, rfl, w11, fun y4 h4' => ?_⟩)
          · rw [am_w_id (by omega) (by omega)] at h4'
            obtain rfl : y4 = ((i + 1 : Nat) : Int) := by omega
            rw [hn] at fo2 op2
            exact ih (i + 1) g10 0 l st2 [] (by omega) w10 f10 wc10 x10 ⟨by have := s10.1; omega, s10.2⟩ t10 (Or.inr ⟨rfl, rfl⟩) op2 fo2
          · rw [am_w_id (by omega) (by omega)] at h4'
            obtain rfl : y4 = ((i + 1 : Nat) : Int) := by omega
            rw [hn] at fo2 op2
            have s11 := s10.fr f11 (by decide) (by simp) (Int.le_refl _)
            exact ih (i + 1) g11 1 l2 st2 (itL m l2) (by omega) w11 (f10.trans (f11.mono (by decide) (by simp))) (wc10.fr f11 (by decide) (by simp)) (x10.fr f11 (by decide) (by simp)) ⟨by have := s11.1; omega, s11.2⟩ (t10.fr f11 (by decide) (by simp)) (Or.inl ⟨rfl, rfl, o11, by omega⟩) op2 fo2
        have aft : ∀ (L : Int) (g10 : am_H) (z : Int), L = (if st.1 = -1 then 180 else st.1 - 1) → wf g10 → fr [10, 11, 12, 13, 14, 15, 16, 58, 58 + 1, 58 + 2] [(9, 7)] h9 g10 → wc g10 W → snI g10 (C + i + 1) → eiP (plA a l) (W.2.2.1 ser) L z → ((z = -1 → am_R (am_prog scr) (d + 5) f_Placer_place 168 [some (.inr (.inr (((57) : Nat) : Int))), some (.inr (.inr (((24) : Nat) : Int))), some (.inl (x2)), some (.inl ((i : Int))), some (.inl (z))] [] g10 Q) ∧ (¬ z = -1 → ∀ h12 : am_H, h12 = am_put g10 57 4 z → (am_isO h12 (h12.2.2.2 24 0) 1 ∧ ((0 ≤ ((61 : Nat) : Int) ∧ (h12.2.2.1 61).1 = 1) ∧ ((0 ≤ ((62 : Nat) : Int) ∧ (h12.2.2.1 62).1 = 1) ∧ (((61 : Nat) : Int) ≠ ((62 : Nat) : Int) ∧ ((0 ≤ (h12.2.2.2 (h12.2.2.2 24 0).toNat 4 : Int) ∧ 0 ≤ (0 : Int) ∧ 0 ≤ (0 : Int)) ∧ ((0 : Int) + (h12.2.2.2 (h12.2.2.2 24 0).toNat 4) ≤ ((h12.2.2.1 61).2 : Int) ∧ ((0 : Int) + (h12.2.2.2 (h12.2.2.2 24 0).toNat 4) ≤ ((h12.2.2.1 62).2 : Int) ∧ (∀ h20 : am_H, h20 = am_cpy h12 61 62 0 0 (h12.2.2.2 (h12.2.2.2 24 0).toNat 4).toNat → (am_R (am_prog scr) (d + 5) f_Placer_place 168 [some (.inr (.inr (((57) : Nat) : Int))), some (.inr (.inr (((24) : Nat) : Int))), some (.inl (x2)), some (.inl ((i : Int))), some (.inl (z))] [] h20 Q)))))))))))  := by
          intro L g10 z hL w10 f10 wc10 s10 he
          have f10' : fr PCL [(9, 7), (57, 4)] h9 g10 := f10.mono (by decide) (by decide)
          have x10 : plW g10 W 24 ser a := y9.fr f10 (by decide) (by decide)
          have t10 : stC g10 a st := t9.fr f10 (by decide) (by decide)
          have o10 : ordC g10 l := fun j hj => by rw [f10.f 61 j (by decide) (by simp)]; exact o9 j hj
          have en := enF_0 rl
          have e1 := sc.2.1
          refine ⟨fun cz => nxt g10 z st w10 (fr9.trans f10') wc10 x10 s10 t10 o10 ?_, fun cz h12 e12 => ?_⟩
          · unfold viF
            rw [if_neg]
            rintro ⟨n1, n2⟩
            rcases en with ⟨k, k1, k2⟩ | ⟨k1, _⟩
            · have kl := k2.le rl
              rcases he with ⟨n', z1, _⟩ | ⟨_, z2⟩
              · omega
              · have := z2 k k2
                by_cases q : st.1 = -1
                · rw [if_pos q] at hL; omega
                · rw [if_neg q] at hL; omega
            · exact n1 k1
          · have fq : fr [] [(57, 4)] g10 h12 := by rw [e12]; exact fr.rfl.put (Or.inr (by simp))
            have w12 : wf h12 := by rw [e12]; exact w10.put np_57_4
            have wc12 : wc h12 W := wc10.fr fq (by simp) (by decide)
            have x12 : plW h12 W 24 ser a := x10.fr fq (by simp) (by decide)
            obtain ⟨b1, b2⟩ := hb h12 wc12 x12
            have k61 := w12.2.1 61 (by omega)
            have k62 := w12.2.1 62 (by omega)
            rw [v61] at k61
            rw [v62] at k62
            rw [b2, k61, k62]
            refine ⟨b1, ⟨by omega, rfl⟩, ⟨by omega, rfl⟩, by omega, by omega, by simp; omega, by simp; omega, fun h20 e20 => ?_⟩
            have f20 : fr [62] [] h12 h20 := by rw [e20]; exact fr.rfl.cpy (by simp)
            have w20 : wf h20 := by rw [e20]; exact w12.cpy (by decide +kernel)
            have o12 : ordC h12 l := fun j hj => by rw [fq.f 61 j (by simp) (by simp)]; exact o10 j hj
            obtain ⟨n', z1, z2, z3⟩ : ∃ n : Nat, z = (n : Int) ∧ z ≤ L ∧ endP (plA a l) (W.2.2.1 ser) n := by
              rcases he with q | q
              · exact q
              · exact absurd q.1 cz
            have nl := z3.le rl
            have ev : enF (plA a l) (W.2.2.1 ser) 181 0 = z := by
              rcases en with ⟨k, k1, k2⟩ | ⟨_, k2⟩
              · rw [k1, k2.uniq z3, z1]
              · exact absurd z3 (k2 n')
            clear en he
            refine nxt h20 z (z, l) w20 (((fr9.trans f10').trans (fq.mono (by simp) (by decide))).trans (f20.mono (by decide) (by simp))) (wc12.fr f20 (by decide) (by simp)) (x12.fr f20 (by decide) (by simp)) ((s10.fr fq (by simp) (by decide) (Int.le_refl _)).fr f20 (by decide) (by simp) (Int.le_refl _)) ⟨?_, Or.inr (by show 0 ≤ z ∧ z ≤ 180; omega), fun _ j hj => ?_⟩ (fun j hj => by rw [f20.f 61 j (by simp) (by simp)]; exact o12 j hj) ?_
            · rw [f20.f 57 4 (by simp) (by simp), e12]; exact put_eq
            · rw [e20, cpy_at, if_pos ⟨rfl, by omega, by omega⟩, show 0 + (j - 0) = j by omega]
              exact o12 j (by omega)
            · unfold viF
              rw [ev, if_pos]
              refine ⟨cz, ?_⟩
              by_cases q : st.1 = -1
              · exact Or.inl q
              · rw [if_neg q] at hL; exact Or.inr (by omega)
        rw [t9.1]
        refine ⟨fun c3 => ?_, fun c3 => ?_⟩
        · have e1 := sc.2.1
          rw [am_w_id (x := st.1 - 1) (by omega) (by omega)]
          exact k_endsIn (C := C + i) hs w9 p58 wc9 x9 rl hB (by omega) s9 (by omega) (fun g10 z w10 f10 wc10 s10 he => ⟨_, rfl, w10, aft (st.1 - 1) g10 z (by rw [if_neg c3]) w10 f10 wc10 s10 he⟩)
        · exact k_endsIn (C := C + i) hs w9 p58 wc9 x9 rl hB (by omega) s9 (by omega) (fun g10 z w10 f10 wc10 s10 he => ⟨_, rfl, w10, aft 180 g10 z (by rw [if_pos c3]) w10 f10 wc10 s10 he⟩)
      · exact absurd q c
end PD
